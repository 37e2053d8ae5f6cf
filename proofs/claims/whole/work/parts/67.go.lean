/-! ===== go ===== -/
def hqg (t : Nat) : Nat := hq t
theorem drwn_of {A : Nat → Nat} {w tab : Nat} {μ ν : wm_M} (e5 : ν.1 65 = μ.1 65) (e6 : ν.1 66 = μ.1 66) (e7 : ν.1 67 = μ.1 67) (h : drwn A w tab μ) : drwn A w tab ν := by
  unfold drwn at h ⊢
  rw [e5, e6, e7]; exact h
theorem askd_of {A : Nat → Nat} {μ ν : wm_M} (e5 : ν.1 63 = μ.1 63) (e6 : ν.1 64 = μ.1 64) (h : askd A μ) : askd A ν := by
  unfold askd at h ⊢
  rw [e5, e6]; exact h
theorem wrkd_of {A : Nat → Nat} {μ ν : wm_M} (e5 : ν.1 76 = μ.1 76) (e6 : ν.1 77 = μ.1 77) (e7 : ν.1 78 = μ.1 78) (h : wrkd A μ) : wrkd A ν := by
  unfold wrkd at h ⊢
  rw [e5, e6, e7]; exact h
def Fz (μ ν : wm_M) : Prop := ∀ d, d ≠ 25 → d ≠ 26 → d ≠ 62 → d ≠ 63 → d ≠ 64 → d ≠ 65 → d ≠ 66 → d ≠ 67 → ν.1 d = μ.1 d
theorem Fz.kq {μ ν : wm_M} (h : Fz μ ν) : Sm kQ μ ν := fun e i q => by
  have k : ∀ d, (∀ i, kQ d i = false) → e ≠ d := fun d hd r => by rw [r, hd i] at q; cases q
  rw [h e (k _ (fun _ => rfl)) (k _ (fun _ => rfl)) (k _ (fun _ => rfl)) (k _ (fun _ => rfl)) (k _ (fun _ => rfl)) (k _ (fun _ => rfl)) (k _ (fun _ => rfl)) (k _ (fun _ => rfl))]
/-- asked, then drawn -/
theorem c_ad {n : Nat} {A : Nat → Nat} (w tab : Nat) (hw : w < 7) (ht : tab < 2) {μ : wm_M} {Q : wm_M → Prop} (hA : RA n A μ) (hk : ∀ ν, RA n A ν → askd A ν → drwn A w tab ν → Fz μ ν → Q ν) : wm_OkV 0 17 [.ref 62] μ (fun μ3 => wm_OkV 0 19 [.ref 62, .int (nI w), .int (nI tab)] μ3 Q) := by
  refine c_17 hA (fun ν hC hK z hF h8 => ?_)
  have hV : ∀ w tab, w < 7 → tab < 2 → ν.1 62 8 = nI (2 * w + tab) → drwn A w tab ν := fun w tab a b e => drwn_of (hF 65 (by decide) (by decide) (by decide) (by decide) (by decide)) (hF 66 (by decide) (by decide) (by decide) (by decide) (by decide)) (hF 67 (by decide) (by decide) (by decide) (by decide) (by decide)) (hA.2.2.2.2.2.1 w tab a b (h8.symm.trans e))
  refine c_19 w tab hw ht hC hV (fun κ hD e8 hG e7 => ?_)
  have hZ : Fz μ κ := fun d a b c e f g i j => (hG d g i j c).trans (hF d a b e f c)
  have hK' : askd A κ := askd_of (hG 63 (by decide) (by decide) (by decide) (by decide)) (hG 64 (by decide) (by decide) (by decide) (by decide)) hK
  have z75 : κ.1 75 = μ.1 75 := hZ 75 (by decide) (by decide) (by decide) (by decide) (by decide) (by decide) (by decide) (by decide)
  refine hk κ ⟨hA.1, hA.2.1, hA.2.2.1.kq hZ.kq, ((hA.cl (Nat.le_refl n)).kq hZ.kq).2.2, fun _ => hK', fun w' tab' a b e => ?_, fun q => ?_⟩ hK' hD hZ
  · have := (nI_eq (by omega) (by omega)).mp (e8.symm.trans e)
    have e1 : w' = w := by omega
    have e2 : tab' = tab := by omega
    subst e1; subst e2
    exact hD
  · rw [z75] at q
    exact wrkd_of (hZ 76 (by decide) (by decide) (by decide) (by decide) (by decide) (by decide) (by decide) (by decide)) (hZ 77 (by decide) (by decide) (by decide) (by decide) (by decide) (by decide) (by decide) (by decide)) (hZ 78 (by decide) (by decide) (by decide) (by decide) (by decide) (by decide) (by decide) (by decide)) (hA.2.2.2.2.2.2 q)
/-- the boat's sail is torn, or tears before a tick -/
def exT (A : Nat → Nat) (t b : Nat) : Prop := ∃ t', t ≤ t' ∧ t' < b ∧ trsA A t'
def goT (A : Nat → Nat) (b : Nat) : Prop := ¬ A (452 + A 2049) = 0 ∨ exT A (A 2050) b
theorem c_51 {m : Nat} {A : Nat → Nat} (b : Nat) (hb : b < 1000) (hb2 : A 2050 ≤ b) {μ : wm_M} {Q : Int32 → wm_M → Prop} (hC : CL m A μ) (h1 : goT A b → Q 1 μ) (h0 : ¬ goT A b → Q 0 μ) : wm_OkI 0 51 [.ref 1, .int (nI b)] μ Q := by
  have bsl := hC.1.sail
  have bt := hC.1.tick
  have bto := hC.1.torn bsl
  have lp : ∀ k t (y : Nat), t + k = b → t ≤ 1000 → y < 2 → (y = 0 → exT A t b → Q 1 μ) → (y = 0 → ¬ exT A t b → Q 0 μ) → (y = 1 → Q 1 μ) → wm_Wp 0 51 24 [.ref 1, .int (nI b), .int (nI y), .int (nI t)] μ (fun w κ => ∃ x, w = some (.int x) ∧ Q x κ) := by
    intro k
    induction k with
    | zero =>
      intro t y hk ht hy g1 g0 g2
      refine w_51_24 _ _ _ _ _ ⟨fun _ => w_51_53 _ _ _ ?_, fun q => absurd (nI_le (by omega) (by omega)) q⟩
      have : y = 0 ∨ y = 1 := by omega
      rcases this with rfl | rfl
      · exact ⟨Or.inl rfl, _, rfl, g0 rfl (fun ⟨t', a, b, _⟩ => by omega)⟩
      · exact ⟨Or.inr rfl, _, rfl, g2 rfl⟩
    | succ k ih =>
      intro t y hk ht hy g1 g0 g2
      have one : (exT A t b → Q 1 μ) → exT A t b ∨ Q 1 μ → wm_Wp 0 51 41 [.ref 1, .int (nI b), .null, .int (nI t)] μ (fun w κ => ∃ x, w = some (.int x) ∧ Q x κ) := fun g1 q => by
        refine w_51_41 _ _ _ _ ?_
        rw [nI_1]
        exact ih (t + 1) 1 (by omega) (by omega) (by decide) (fun q => by omega) (fun q => by omega) (fun _ => q.elim g1 id)
      refine w_51_24 _ _ _ _ _ ⟨fun q => absurd q (nI_ge (by omega) (by omega)), fun _ => ⟨fun z => ?_, fun z => one (fun ⟨t', a, c, d⟩ => ?_) (Or.inr ?_)⟩⟩
      · have z := (nI_eq (b := 0) (by omega) (by decide)).mp z
        refine c_50 t (by omega) hC (fun q => ⟨fun r => absurd r (by decide), fun _ => one (g1 z) (Or.inl ⟨t, Nat.le_refl t, by omega, q⟩)⟩) (fun q => ⟨fun _ => w_51_45 _ _ _ _ ?_, fun r => absurd rfl r⟩)
        rw [nI_1]
        refine ih (t + 1) 0 (by omega) (by omega) (by decide) (fun _ ⟨t', a, c, d⟩ => g1 z ⟨t', by omega, c, d⟩) (fun _ r => g0 z (fun ⟨t', a, c, d⟩ => ?_)) (fun q => by omega)
        by_cases e : t' = t
        · subst e; exact q d
        · exact r ⟨t', by omega, c, d⟩
      · exact g2 (by have : ¬ y = 0 := fun q => z (by rw [q]; rfl)
                     omega)
      · exact g2 (by have : ¬ y = 0 := fun q => z (by rw [q]; rfl)
                     omega)
  refine v_51 _ _ _ ?_
  rw [hC.2.2.1.sail, nI_clamp (show A 2049 < 2 ^ 31 by omega), hC.2.2.1.torn bsl, hC.2.2.1.tick]
  refine ⟨vp_in_nI bsl (by decide), lp (b - A 2050) (A 2050) (A (452 + A 2049)) (by omega) (by omega) bto (fun z q => h1 (Or.inr q)) (fun z q => h0 (fun r => r.elim (fun r => r z) q)) (fun z => h1 (Or.inl (by omega)))⟩
theorem stA_le (A : Nat → Nat) (w tab c h x hr : Nat) : stA A w tab c h x hr ≤ 140 := by
  unfold stA
  split
  · omega
  · split
    · omega
    · split
      · omega
      · split
        · omega
        · rename_i q
          generalize pcA _ _ _ = p at q ⊢
          refine Nat.div_le_of_le_mul ?_
          split <;> omega
/-- the ticks of the step behind the turn -/
def sgA (A : Nat → Nat) (h b : Nat) : Nat := stA A 6 1 (A 2047) h (A 2049) (hq b)
theorem c_164 {n : Nat} {A : Nat → Nat} (h r : Nat) (hh : h < 8) (hr : r < 5) {μ : wm_M} {Q : Int32 → wm_M → Prop} (hA : RA n A μ) (hp : A 2046 = 1) (hBS : BS μ) (h0 : bsA (A 2047) h = 36 ∨ goT A (A 2050 + r) ∨ 120 < A 2050 + r → Q 0 μ) (h1 : ∀ ν, RA n A ν → Fz μ ν → ¬ (goT A (A 2050 + r) ∨ 120 < A 2050 + r) → Q (nI (sgA A h (A 2050 + r))) ν) : wm_OkI 0 164 [.ref 0, .int (nI r), .int (nI h)] μ Q := by
  have hC := hA.cl (Nat.le_refl n)
  have bsl := hC.1.sail
  have bss := hC.1.sails
  have bt := hC.1.tick
  have bc := hC.1.cell
  have hsl := (hC.2.1.2.2 hp).1
  have b36 := bsA_lt (A 2047) h
  have h12 := hq_lt (A 2050 + r)
  refine v_164 _ _ _ _ ?_
  rw [hC.2.2.1.cell, hC.2.2.1.tick, nI_add]
  refine c_182 (A 2047) h bc hh ?_
  unfold bsI
  by_cases e : bsA (A 2047) h = 36
  · rw [if_pos e]
    exact ⟨fun _ => w_164_51 _ _ ⟨_, rfl, h0 (Or.inl e)⟩, fun q => absurd rfl q⟩
  rw [if_neg e]
  refine ⟨fun q => absurd q.symm (fun q => (nI_meq (b := 1) (by omega) (by decide) (by decide)).mp q), fun _ => ⟨fun z => w_164_51 _ _ ⟨_, rfl, h0 (Or.inr (Or.inr ((nI_ltI (a := 120) (by decide) (by omega)).mp z)))⟩, fun z => c_51 _ (by omega) (by omega) hC (fun q => ⟨fun e => absurd e (by decide), fun _ => w_164_51 _ _ ⟨_, rfl, h0 (Or.inr (Or.inl q))⟩⟩) (fun q => ⟨fun _ => w_164_53 _ _ _ _ _ (s_180 _ (by omega) ?_), fun e => absurd rfl e⟩)⟩⟩
  rw [hC.2.2.1.cell, hC.2.2.1.sail]
  refine c_18 (A 2047) (hq (A 2050 + r)) (A 2049) bc h12 hsl hC (fun ν k1 k2 k3 hF => ?_)
  have hCν := hC.kq hF.kq
  rw [hCν.2.2.1.sail]
  refine c_18 (bsA (A 2047) h) (hq (A 2050 + r)) (A 2049) (by omega) h12 hsl hCν (fun κ j1 j2 j3 hG => ?_)
  have hF2 : Fx μ κ := hF.tr hG
  have hCκ := hC.kq hF2.kq
  have e62 : κ.1 62 = μ.1 62 := hF2 62 (by decide) (by decide) (by decide) (by decide)
  have hV : ∀ w tab, w < 7 → tab < 2 → κ.1 62 8 = nI (2 * w + tab) → drwn A w tab κ := fun w tab a b e => drwn_of (hF2 65 (by decide) (by decide) (by decide) (by decide)) (hF2 66 (by decide) (by decide) (by decide) (by decide)) (hF2 67 (by decide) (by decide) (by decide) (by decide)) (hA.2.2.2.2.2.1 w tab a b (by rw [← e62]; exact e))
  refine c_19 6 1 (by decide) (by decide) hCκ hV (fun ξ hD e8 hH e7 => ?_)
  have hZ : Fz μ ξ := fun d a b c e f g i j => (hH d g i j c).trans (hF2 d a b e f)
  have h63 : ξ.1 63 = κ.1 63 := hH 63 (by decide) (by decide) (by decide) (by decide)
  have h64 : ξ.1 64 = κ.1 64 := hH 64 (by decide) (by decide) (by decide) (by decide)
  have z75 : ξ.1 75 = μ.1 75 := hZ 75 (by decide) (by decide) (by decide) (by decide) (by decide) (by decide) (by decide) (by decide)
  have hask : ¬ ξ.1 62 7 = 0 → askd A ξ := fun q => by
    rw [e7, e62] at q
    have a0 := hA.2.2.2.2.1 q
    refine askd_of h63 h64 (fun c' y' x' a b d => ?_)
    by_cases u : (c' * 12 + y') * 3 + x' = (bsA (A 2047) h * 12 + hq (A 2050 + r)) * 3 + A 2049
    · have e1 : c' = bsA (A 2047) h := by omega
      have e2 : y' = hq (A 2050 + r) := by omega
      have e3 : x' = A 2049 := by omega
      rw [e1, e2, e3]
      exact ⟨j2, j3⟩
    · rw [(j1 _ u).1, (j1 _ u).2]
      by_cases v : (c' * 12 + y') * 3 + x' = (A 2047 * 12 + hq (A 2050 + r)) * 3 + A 2049
      · have e1 : c' = A 2047 := by omega
        have e2 : y' = hq (A 2050 + r) := by omega
        have e3 : x' = A 2049 := by omega
        rw [e1, e2, e3]
        exact ⟨k2, k3⟩
      · rw [(k1 _ v).1, (k1 _ v).2]
        exact a0 c' y' x' a b d
  have hCξ := hC.kq hZ.kq
  have hAξ : RA n A ξ := ⟨hA.1, hA.2.1, hA.2.2.1.kq hZ.kq, hCξ.2.2, hask, fun w' tab' a b e => by
    have := (nI_eq (by omega) (by omega)).mp (e8.symm.trans e)
    have e1 : w' = 6 := by omega
    have e2 : tab' = 1 := by omega
    subst e1; subst e2
    exact hD, fun q => by
    rw [z75] at q
    exact wrkd_of (hZ 76 (by decide) (by decide) (by decide) (by decide) (by decide) (by decide) (by decide) (by decide)) (hZ 77 (by decide) (by decide) (by decide) (by decide) (by decide) (by decide) (by decide) (by decide)) (hZ 78 (by decide) (by decide) (by decide) (by decide) (by decide) (by decide) (by decide) (by decide)) (hA.2.2.2.2.2.2 q)⟩
  have l64 : κ.1 64 ((A 2047 * 12 + hq (A 2050 + r)) * 3 + A 2049) = mfA A (A 2047) (hq (A 2050 + r)) (A 2049) := by
    by_cases e2 : bsA (A 2047) h = A 2047
    · rw [e2] at j3; exact j3
    · rw [(j1 _ (by omega)).2]; exact k3
  rw [hCξ.2.2.1.cell, hCξ.2.2.1.sail]
  exact c_22l 6 1 (A 2047) h (A 2049) _ (by decide) bc hh hsl h12 hCξ (fun _ => (congrFun h63 _).trans j2) ((congrFun h64 _).trans l64) hD (hBS.kq hZ.kq) ⟨_, rfl, h1 ξ hAξ hZ (fun w => w.elim q (fun w => z ((nI_ltI (a := 120) (by decide) (by omega)).mpr w)))⟩
theorem kR_L {c i : Nat} (h : kR c i = true) : kL c i = true := by
  unfold kL
  rw [kR_W h]
  have h1 : Nat.beq c 93 = false := by
    cases e : Nat.beq c 93 with
    | false => rfl
    | true => rw [Nat.eq_of_beq_eq_true e, show kR 93 i = false from rfl] at h; cases h
  have h2 : Nat.beq c 94 = false := by
    cases e : Nat.beq c 94 with
    | false => rfl
    | true => rw [Nat.eq_of_beq_eq_true e, show kR 94 i = false from rfl] at h; cases h
  rw [h1, h2]; rfl
theorem kC_L {c i : Nat} (h : KC c i = true) : kL c i = true := by
  unfold kL
  rw [kC_W h]
  have h1 : Nat.beq c 93 = false := by
    cases e : Nat.beq c 93 with
    | false => rfl
    | true => rw [Nat.eq_of_beq_eq_true e, show KC 93 i = false from rfl] at h; cases h
  have h2 : Nat.beq c 94 = false := by
    cases e : Nat.beq c 94 with
    | false => rfl
    | true => rw [Nat.eq_of_beq_eq_true e, show KC 94 i = false from rfl] at h; cases h
  rw [h1, h2]; rfl
def GOA (A : Nat → Nat) (h b : Nat) : Prop := ¬ goT A b ∧ ¬ sgA A h b = 0 ∧ b + sgA A h b ≤ 120
theorem kiR_of {A : Nat → Nat} {x : Nat} (h : x < A 2040) : kiR A x = A (449 + x) := by unfold kiR; exact if_pos h
/-- the reference's go, up to what it decides -/
theorem m_295 {m : Nat} {A : Nat → Nat} (h : Nat) (hh : h < 8) {μ : wm_M} {Q : Int32 → wm_M → Prop} (hB : BA m A) (hX : VX A) (hV : RV A) (hM : RM 91 A μ) (hp : A 2046 = 1) (h0 : ∀ ν, Sm kL μ ν → ¬ GOA A h (A 2050 + ap (A 2048) h) → wm_OkI 0 185 [.ref 89, .int (-7 : Int32)] ν Q) (h1 : ∀ ν, Sm kL μ ν → GOA A h (A 2050 + ap (A 2048) h) → wm_Wp 0 295 255 [.ref 89, .int (nI h), .int (nI (ap (A 2048) h)), .null, .null, .null, .int (nI (sgA A h (A 2050 + ap (A 2048) h)))] ν (fun w κ => ∃ x, w = some (.int x) ∧ Q x κ)) : wm_OkI 0 295 [.ref 89, .int (nI h)] μ Q := by
  have bsl := hB.sail
  have bss := hB.sails
  have bt := hB.tick
  have bh := hB.heading
  have bc := hB.cell
  have hap := ap_le (A 2048) h bh hh
  have hsl := (hX.2.2 hp).1
  have e6 : ∀ {ν : wm_M}, RM 91 A ν → ν.1 91 (2040 + 6) = nI (A 2046) := fun h => h 2046 (by decide)
  have e7 : ∀ {ν : wm_M}, RM 91 A ν → ν.1 91 (2040 + 7) = nI (A 2047) := fun h => h 2047 (by decide)
  have e8 : ∀ {ν : wm_M}, RM 91 A ν → ν.1 91 (2040 + 8) = nI (A 2048) := fun h => h 2048 (by decide)
  have e9 : ∀ {ν : wm_M}, RM 91 A ν → ν.1 91 (2040 + 9) = nI (A 2049) := fun h => h 2049 (by decide)
  have e10 : ∀ {ν : wm_M}, RM 91 A ν → ν.1 91 (2040 + 10) = nI (A 2050) := fun h => h 2050 (by decide)
  have c6 := e6 hM
  have c7 := e7 hM
  have c8 := e8 hM
  have c9 := e9 hM
  have c10 := e10 hM
  generalize hr : ap (A 2048) h = r at *
  -- the step
  have low : ¬ goT A (A 2050 + r) → A 2050 + r < 120 → wm_Wp 0 295 147 [.ref 89, .int (nI h), .int (nI r), .int (nI (A 2050 + r)), .null, .null, .null] μ (fun w κ => ∃ x, w = some (.int x) ∧ Q x κ) := fun g1 g2 => by
    have fin : ∀ ν, Sm kL μ ν → ν.1 94 (3 * (36 * hqg (A 2050 + r) + A 2047) + A 2049) = sayV A 1 (A (449 + A 2049)) (A 2047) (hqg (A 2050 + r)) → (bsA (A 2047) h < 36 → ν.1 93 (3 * (36 * hqg (A 2050 + r) + bsA (A 2047) h) + A 2049) = sayV A 0 (A (449 + A 2049)) (bsA (A 2047) h) (hqg (A 2050 + r))) → wm_Wp 0 295 201 [.ref 89, .int (nI h), .int (nI r), .int (nI (A 2050 + r)), .null, .null, .null] ν (fun w κ => ∃ x, w = some (.int x) ∧ Q x κ) := fun ν hS k1 k2 => by
      have hMν : RM 91 A ν := fun j hj => (hS 91 j rfl).trans (hM j hj)
      refine w_295_201 _ _ _ _ _ (s_188 7 (by decide) (s_188 9 (by decide) (s_192 _ (by omega) ?_)))
      rw [e7 hMν, e9 hMν, show ((3 : Int32) * (((8 : Int32) * nI (A 2047)) + nI h)) + nI (A 2049) = nI (st_ (A 2047) h (A 2049)) by unfold st_; simp (disch := omega) only [nl, nI_add, pk_mul, pk_sub, pk_div, rm_n, nI_clamp, vi_, nI_leI, nI_ltI, nI_eq, nI_sb, nI_eqm, nI_meq, Nat.zero_add, Nat.add_zero]]
      have ref : ¬ GOA A h (A 2050 + r) → wm_Wp 0 295 248 [.ref 89, .null, .null, .null, .null, .null, .null] ν (fun w κ => ∃ x, w = some (.int x) ∧ Q x κ) := fun q => w_295_248 _ _ ((h0 ν hS q).mono (fun x κ hx => ⟨_, rfl, hx⟩))
      have sb : sgA A h (A 2050 + r) ≤ 140 := stA_le _ _ _ _ _ _ _
      refine m_249 6 1 (A 2047) h (A 2049) _ (by decide) (by decide) bc hh bsl (hq_lt _) hB hX hMν (fun _ => k1) (fun _ => k2) (fun _ => ⟨fun z => ref (fun q => q.2.1 ((nI_eq (b := 0) (show sgA A h (A 2050 + r) < 2 ^ 31 by omega) (by decide)).mp z)), fun z => ?_⟩) (fun q => absurd hsl q)
      rw [show stA A 6 1 (A 2047) h (A 2049) (hq (A 2050 + r)) = sgA A h (A 2050 + r) from rfl, nI_add]
      refine ⟨fun y => h1 ν hS ⟨g1, fun q => z (by show nI (sgA A h (A 2050 + r)) = 0; rw [q]; rfl), (nI_leI (b := 120) (by omega) (by decide)).mp y⟩, fun y => ref (fun q => y ((nI_leI (b := 120) (by omega) (by decide)).mpr q.2.2))⟩
    refine w_295_147 _ _ _ _ _ (s_188 7 (by decide) ?_)
    rw [c7]
    refine m_247 (A 2047) h bc hh (s_192 _ (by omega) (s_188 7 (by decide) (s_188 9 (by decide) ?_)))
    rw [c7, c9]
    refine m_245 (hqg (A 2050 + r)) (A 2047) (A 2049) (hq_lt _) bc bsl hB hV hM (fun ν k0 k1 _ hS => ?_)
    rw [kiR_of hsl] at k0 k1
    have hMν : RM 91 A ν := fun j hj => (hS 91 j rfl).trans (hM j hj)
    have b36 := bsA_lt (A 2047) h
    unfold bsI
    by_cases e : bsA (A 2047) h = 36
    · rw [if_pos e]
      exact ⟨fun _ => fin ν hS k1 (fun q => by omega), fun q => absurd rfl q⟩
    · rw [if_neg e]
      refine ⟨fun q => absurd q.symm (fun q => (nI_meq (b := 1) (by omega) (by decide) (by decide)).mp q), fun _ => s_192 _ (by omega) (s_188 9 (by decide) ?_)⟩
      rw [e9 hMν]
      refine m_245 (hqg (A 2050 + r)) (bsA (A 2047) h) (A 2049) (hq_lt _) (by omega) bsl hB hV hMν (fun κ j0 j1 j2 hS2 => fin κ (hS.tr hS2) ?_ (fun _ => ?_))
      · by_cases e2 : bsA (A 2047) h = A 2047
        · rw [kiR_of hsl, e2] at j1; exact j1
        · rw [(j2 _ (by omega)).2]; exact k1
      · rw [kiR_of hsl] at j0; exact j0
  have ref : ¬ GOA A h (A 2050 + r) → wm_Wp 0 295 135 [.ref 89, .int (nI h), .int (nI r), .int (nI (A 2050 + r)), .int 0, .null, .null] μ (fun w κ => ∃ x, w = some (.int x) ∧ Q x κ) := fun q => w_295_135 _ _ _ _ _ _ ⟨fun _ => (h0 μ (Sm.rf _ _) q).mono (fun x κ hx => ⟨_, rfl, hx⟩), fun z => absurd rfl z⟩
  have non : ∀ t, ¬ GOA A h (A 2050 + r) → t ≤ A 2050 + r → wm_Wp 0 295 87 [.ref 89, .int (nI h), .int (nI r), .int (nI (A 2050 + r)), .int 0, .int (nI t), .null] μ (fun w κ => ∃ x, w = some (.int x) ∧ Q x κ) := fun t q _ => w_295_87 _ _ _ _ _ _ _ ⟨fun _ => ref q, fun _ => ⟨fun _ => ref q, fun z => absurd rfl z⟩⟩
  have lp : A (452 + A 2049) = 0 → A 2050 + r < 120 → ∀ k t, t + k = A 2050 + r → A 2050 ≤ t → (∀ t', A 2050 ≤ t' → t' < t → ¬ trsA A t') → wm_Wp 0 295 87 [.ref 89, .int (nI h), .int (nI r), .int (nI (A 2050 + r)), .int 1, .int (nI t), .null] μ (fun w κ => ∃ x, w = some (.int x) ∧ Q x κ) := by
    intro z l k
    induction k with
    | zero =>
      intro t hk ht hn
      have : t = A 2050 + r := by omega
      subst this
      exact w_295_87 _ _ _ _ _ _ _ ⟨fun _ => w_295_135 _ _ _ _ _ _ ⟨fun q => absurd q (by decide), fun _ => low (fun q => q.elim (fun q => q z) (fun ⟨t', a, b, c⟩ => hn t' a b c)) l⟩, fun q => absurd (nI_le (Nat.le_refl _) (by omega)) q⟩
    | succ k ih =>
      intro t hk ht hn
      refine w_295_87 _ _ _ _ _ _ _ ⟨fun q => absurd q (nI_ge (by omega) (by omega)), fun _ => ⟨fun q => absurd q (by decide), fun _ => s_188 9 (by decide) (s_188 7 (by decide) (s_192 t (by omega) ?_))⟩⟩
      rw [c7, c9]
      refine m_292 t hB hM (fun q => ⟨fun e => absurd e (by decide), fun _ => w_295_126 _ _ _ _ _ _ ?_⟩) (fun q => ⟨fun _ => ?_, fun e => absurd rfl e⟩)
      · rw [nI_1]
        exact non (t + 1) (fun g => g.1 (Or.inr ⟨t, ht, by omega, q⟩)) (by omega)
      · rw [nI_1]
        refine ih (t + 1) (by omega) (by omega) (fun t' a b => ?_)
        by_cases e : t' = t
        · subst e; exact q
        · exact hn t' a (by omega)
  have r76 : ¬ GOA A h (A 2050 + r) → wm_Wp 0 295 76 [.ref 89, .int (nI h), .int (nI r), .int (nI (A 2050 + r)), .null, .null, .null] μ (fun w κ => ∃ x, w = some (.int x) ∧ Q x κ) := fun q => w_295_76 _ _ _ _ _ (s_188 10 (by decide) (by rw [c10]; exact non _ q (by omega)))
  refine v_295 _ _ _ (s_188 6 (by decide) ⟨fun q => absurd (c6.symm.trans q) (by rw [hp]; decide), fun _ => w_295_16 _ _ _ (s_184 ⟨fun q => absurd ⟨nI_le (a := 0) (by omega) (by omega), nI_le (b := 7) (by omega) (by decide)⟩ (bI_0.mp q), fun _ => w_295_33 _ _ _ (s_188 8 (by decide) ?_)⟩)⟩)
  rw [c8]
  refine s_248 (A 2048) h bh hh ?_
  rw [hr]
  refine s_188 10 (by decide) (s_188 9 (by decide) ?_)
  rw [c10, c9, nI_add]
  refine m_213 hB hM (fun i hi e q => ⟨fun r => absurd r (by decide), fun _ => ⟨fun l => r76 (fun g => ?_), fun l => s_188 10 (by decide) ?_⟩⟩) (fun q => ⟨fun _ => r76 (fun g => g.1 (Or.inl (q _ hsl rfl))), fun e => absurd rfl e⟩)
  · have l := (nI_leI (a := 120) (by decide) (by omega)).mp l
    have g1 := g.2.1
    have g2 := g.2.2
    omega
  · have := (nI_eq (by omega) (by omega)).mp e
    subst this
    rw [c10]
    exact lp q (Nat.lt_of_not_le (fun w => l ((nI_leI (a := 120) (by decide) (by omega)).mpr w))) r (A 2050) rfl (Nat.le_refl _) (fun t' a b => by omega)
theorem sg_bs {A : Nat → Nat} {h b : Nat} (q : ¬ sgA A h b = 0) : ¬ bsA (A 2047) h = 36 := fun e => q (by unfold sgA stA; exact if_pos e)
theorem p_go (a : Int32) {n : Nat} (hn : n < 8000) {μ : wm_M} (h : Rel n μ) : wm_OkI 0 147 [.ref 0, .int a] μ (Pr n 295 [.ref 89, .int a]) := by
  have h' := h
  obtain ⟨A, hA, hO⟩ := h
  have hM := hA.2.2.1
  have hV := hA.2.2.2.1.2.2.rv
  have bt := hA.1.tick
  have bh := hA.1.heading
  have bc := hA.1.cell
  have bsl := hA.1.sail
  have b8 := hA.1.hands
  have bw := hA.1.went
  have hMr : ∀ k, RM 91 A (wm_si μ 88 k (μ.1 88 k + 1)) := fun k => hM.fr rfl
  have e6 : ∀ {ν : wm_M}, RM 91 A ν → ν.1 91 (2040 + 6) = nI (A 2046) := fun h => h 2046 (by decide)
  refine v_147 _ _ _ ?_
  rw [hA.2.2.2.1.1.put]
  refine ⟨fun z => s_161 2 (by decide) ⟨_, rfl, v_295 _ _ _ (s_188 6 (by decide) ⟨fun _ => s_185 2 (by decide) ⟨_, rfl, rfl, (h'.rf 2).up⟩, fun q => absurd ((e6 (hMr 2)).trans z) q⟩)⟩, fun z => w_147_20 _ _ _ (s_168 ⟨fun q => s_161 3 (by decide) ⟨_, rfl, v_295 _ _ _ (s_188 6 (by decide) ⟨fun q => absurd ((e6 (hMr 3)).symm.trans q) z, fun _ => w_295_16 _ _ _ (s_184 ⟨fun _ => s_185 3 (by decide) ⟨_, rfl, rfl, (h'.rf 3).up⟩, fun r => absurd (nz r) (bI_0.mp q)⟩)⟩)⟩, fun q => w_147_34 _ _ _ ?_⟩)⟩
  obtain ⟨k, hk, rfl⟩ := in_nI 7 (by decide) (nz q)
  have hk8 : k < 8 := by omega
  have hp : A 2046 = 1 := put_01 hA.1 (fun q => z (by rw [q]; rfl))
  have hap := ap_le (A 2048) k bh hk8
  rw [hA.2.2.2.1.1.heading]
  have sb : sgA A k (A 2050 + ap (A 2048) k) ≤ 140 := stA_le _ _ _ _ _ _ _
  have ref0 : ∀ ν, RA n A ν → RO n ν → ¬ GOA A k (A 2050 + ap (A 2048) k) → wm_Wp 0 147 79 [.ref 0, .null, .null, .null] ν (fun v ν => ∃ x, v = some (.int x) ∧ Pr n 295 [.ref 89, .int (nI k)] x ν) := fun ν hAν hOν q => w_147_79 _ _ (s_161 7 (by decide) ⟨_, rfl, m_295 k hk8 hA.1 hA.2.1 hV (hAν.2.2.1.fr rfl) hp (fun κ hS _ => s_185 7 (by decide) ⟨rfl, (((show Rel n ν from ⟨A, hAν, hOν⟩).rf 7).sm (rm_sm (hS.le (fun _ _ q => kR_L q)) 7)).up⟩) (fun κ hS g => absurd g q)⟩)
  refine s_181 (A 2048) k bh hk8 (c_164 k (ap (A 2048) k) hk8 (by omega) hA hp hO.2.2.2.2 (fun q => ⟨fun _ => ref0 μ hA hO (fun g => q.elim (sg_bs g.2.1) (fun q => q.elim g.1 (fun q => ?_))), fun e => absurd rfl e⟩) (fun ν hAν hZ q => ?_))
  · have := g.2.2
    omega
  have hOν := hO.kq hZ.kq
  have hCν := hAν.cl (Nat.le_refl n)
  have hMν := hAν.2.2.1
  have ref7 := ref0 ν hAν hOν
  refine ⟨fun y => ref7 (fun g => g.2.1 ((nI_eq (b := 0) (by omega) (by decide)).mp y)), fun y => ?_⟩
  rw [hAν.2.2.2.1.1.tick, nI_add, nI_add]
  refine ⟨fun v => w_147_86 _ _ _ _ _ (s_163 ?_), fun v => ref7 (fun g => v ((nI_leI (b := 120) (by omega) (by decide)).mpr g.2.2))⟩
  have G : GOA A k (A 2050 + ap (A 2048) k) := ⟨fun r => q (Or.inl r), fun r => y (by rw [r]; rfl), (nI_leI (b := 120) (by omega) (by decide)).mp v⟩
  have e36 := sg_bs G.2.1
  have b36 := bsA_lt (A 2047) k
  have lim := G.2.2
  rw [nI_add]
  have rf : ∀ ξ0, RM 91 A ξ0 → ∀ Q : Int32 → wm_M → Prop, (∀ ξ, Sm kL ξ0 ξ → wm_Wp 0 295 255 [.ref 89, .int (nI k), .int (nI (ap (A 2048) k)), .null, .null, .null, .int (nI (sgA A k (A 2050 + ap (A 2048) k)))] ξ (fun w κ => ∃ x, w = some (.int x) ∧ Q x κ)) → wm_OkI 0 295 [.ref 89, .int (nI k)] ξ0 Q := fun ξ0 hM0 Q w => m_295 k hk8 hA.1 hA.2.1 hV hM0 hp (fun _ _ g => absurd G g) (fun ξ hL _ => w ξ hL)
  clear ref7 ref0 G
  generalize sgA A k (A 2050 + ap (A 2048) k) = s at *
  generalize ap (A 2048) k = r at *
  have lim2 : A 2050 + (r + s) ≤ 120 := by omega
  refine p_ticks hAν hn hp lim2 (fun κ hC hS hMκ => v_4 _ _ _ ?_)
  have b47 : psA A (r + s) 2047 = A 2047 := psA_ne A bsl (by omega) (by omega) (by omega) _
  have b53 : psA A (r + s) 2053 = A 2053 := psA_ne A bsl (by omega) (by omega) (by omega) _
  rw [hC.2.2.1.cell, b47]
  refine c_182 (A 2047) k bc hk8 ?_
  have eI : bsI (A 2047) k = nI (bsA (A 2047) k) := by unfold bsI; exact if_neg e36
  rw [eI]
  refine ⟨fun q => absurd q.symm (fun q => (nI_meq (b := 1) (by omega) (by decide) (by decide)).mp q), fun _ => ⟨rfl, _, rfl, ?_⟩⟩
  generalize hBe : psA A (r + s) = B at *
  have hC1 : CL (n + 1) (uN B 2048 k) (wm_si κ 13 2 (nI k)) := hC.wr 13 2 2048 1 (by decide) (by decide) 0 (by decide) k (show k < 8 by omega) (by omega)
  have hC2 : CL (n + 1) (uN (uN B 2048 k) 2047 (bsA (A 2047) k)) (wm_si (wm_si κ 13 2 (nI k)) 13 1 (nI (bsA (A 2047) k))) := hC1.wr 13 1 2047 1 (by decide) (by decide) 0 (by decide) _ (show bsA (A 2047) k < 36 by omega) (by omega)
  have u53 : uN (uN B 2048 k) 2047 (bsA (A 2047) k) 2053 = A 2053 := by rw [uN_ne _ _ (by decide), uN_ne _ _ (by decide), b53]
  rw [hC2.2.2.1.went, u53, nI_1]
  have hC3 : CL (n + 1) (uN (uN (uN B 2048 k) 2047 (bsA (A 2047) k)) 2053 (A 2053 + 1)) (wm_si (wm_si (wm_si κ 13 2 (nI k)) 13 1 (nI (bsA (A 2047) k))) 13 5 (nI (A 2053 + 1))) := hC2.wr 13 5 2053 1 (by decide) (by decide) 0 (by decide) _ (show A 2053 + 1 < n + 1 + 1 by omega) (by omega)
  have hS3 : Sm KM (ch_ ν) (wm_si (wm_si (wm_si κ 13 2 (nI k)) 13 1 (nI (bsA (A 2047) k))) 13 5 (nI (A 2053 + 1))) := ((hS.si rfl).si rfl).si rfl
  have hM3 : RM 91 A (wm_si (wm_si (wm_si κ 13 2 (nI k)) 13 1 (nI (bsA (A 2047) k))) 13 5 (nI (A 2053 + 1))) := hMκ.fr rfl
  have qt : ∀ ξ, RM 91 A ξ → ∀ Q : wm_M → Prop, (∀ η, RM 91 B η → Sm KC ξ η → Q η) → wm_OkV 0 293 [.ref 89, .int (nI (r + s))] ξ Q := fun ξ hM0 Q w => q_ticks hA.1 hn lim2 hM0 (by rw [hBe]; exact w)
  refine rf _ hM3 _ (fun ξ hL => w_295_255 _ _ _ _ _ ?_)
  have hMξ : RM 91 A ξ := fun j hj => (hL 91 j rfl).trans (hM3 j hj)
  rw [nI_add]
  refine qt ξ hMξ _ (fun η hN hS2 => ?_)
  rw [show ((2048 : Int32)).toNatClampNeg = 2048 from by decide +kernel, show ((2047 : Int32)).toNatClampNeg = 2047 from by decide +kernel, show ((2053 : Int32)).toNatClampNeg = 2053 from by decide +kernel]
  have m1 := hN.w 2048 k
  refine ⟨vp_in_nI (n := 2048) (by decide) (by decide), s_188 7 (by decide) ?_⟩
  rw [show (wm_si η 91 2048 (nI k)).1 91 (2040 + 7) = nI (A 2047) from (m1 2047 (by decide)).trans (by rw [uN_ne _ _ (by decide), b47])]
  refine m_247 (A 2047) k bc hk8 ?_
  rw [eI]
  have m2 := m1.w 2047 (bsA (A 2047) k)
  rw [show (wm_si (wm_si η 91 2048 (nI k)) 91 2047 (nI (bsA (A 2047) k))).1 91 2053 = nI (A 2053) from (m2 2053 (by decide)).trans (by rw [u53]), nI_1]
  have m3 := m2.w 2053 (A 2053 + 1)
  refine ⟨vp_in_nI (n := 2047) (by decide) (by decide), vp_in_nI (n := 2053) (by decide) (by decide), vp_in_nI (n := 2053) (by decide) (by decide), s_188 10 (by decide) ⟨_, rfl, ?_, Rel.fin3 hOν hS3 (Nat.le_succ n) hC3 ((hL.le (fun _ _ q => kC_L q)).tr (((hS2.si rfl).si rfl).si rfl)) m3⟩⟩
  exact (hC3.2.2.1.tick).trans (m3 2050 (by decide)).symm
