/-! ===== tree, worth ===== -/
def PrJ (n : Nat) (y : Nat) (as : List Value) : Int64 → wm_M → Prop := fun a ν => wm_OkJ 0 y as ν (fun b κ => a = b ∧ Rel (n + 1) κ)
def anT (A : Nat → Nat) : Nat → Bool
  | 0 => false
  | w + 1 => anT A w || decide (0 < tnA A w 12)
theorem sm_anT (A : Nat → Nat) : ∀ n, smN (fun w => b01 (0 < tnA A w 12)) n ≤ n ∧ (smN (fun w => b01 (0 < tnA A w 12)) n = 0 ↔ anT A n = false)
  | 0 => ⟨Nat.le_refl 0, ⟨fun _ => rfl, fun _ => rfl⟩⟩
  | n + 1 => by
    obtain ⟨h1, h2⟩ := sm_anT A n
    have un : anT A (n + 1) = (anT A n || decide (0 < tnA A n 12)) := rfl
    have us : smN (fun w => b01 (0 < tnA A w 12)) (n + 1) = smN (fun w => b01 (0 < tnA A w 12)) n + b01 (0 < tnA A n 12) := rfl
    rw [un, us, Bool.or_eq_false_iff]
    by_cases t : 0 < tnA A n 12
    · rw [show b01 (0 < tnA A n 12) = 1 from if_pos t, decide_eq_true t]
      exact ⟨by omega, ⟨fun q => by omega, fun q => by cases q.2⟩⟩
    · rw [show b01 (0 < tnA A n 12) = 0 from if_neg t, decide_eq_false t]
      exact ⟨by omega, ⟨fun q => ⟨h2.mp (by omega), rfl⟩, fun q => by rw [Nat.add_zero]; exact h2.mpr q.1⟩⟩
theorem m_277 {m : Nat} {A : Nat → Nat} {μ : wm_M} {Q : Int32 → wm_M → Prop} (hB : BA m A) (hM : RM 91 A μ) (hq : Q (bI (anT A 6 = true)) μ) : wm_OkI 0 277 [.ref 89] μ Q := by
  have lp : ∀ j w, w + j = 6 → wm_Wp 0 277 4 [.ref 89, .int (bI (anT A w = true)), .int (nI w)] μ (fun v ν => ∃ x, v = some (.int x) ∧ Q x ν) := by
    intro j
    induction j with
    | zero =>
      intro w hj
      have : w = 6 := by omega
      subst this
      exact w_277_4 _ _ _ _ ⟨fun _ => w_277_34 _ _ _ ⟨bI_01, _, rfl, hq⟩, fun q => absurd (nI_le (Nat.le_refl 6) (by decide)) q⟩
    | succ j ih =>
      intro w hj
      have un : anT A (w + 1) = (anT A w || decide (0 < tnA A w 12)) := rfl
      have yes : anT A (w + 1) = true → wm_Wp 0 277 22 [.ref 89, .null, .int (nI w)] μ (fun v ν => ∃ x, v = some (.int x) ∧ Q x ν) := fun e => by
        refine w_277_22 _ _ _ ?_
        have := ih (w + 1) (by omega)
        rw [bI_t e] at this
        rw [nI_1]; exact this
      have no : anT A (w + 1) = false → wm_Wp 0 277 26 [.ref 89, .null, .int (nI w)] μ (fun v ν => ∃ x, v = some (.int x) ∧ Q x ν) := fun e => by
        refine w_277_26 _ _ _ ?_
        have := ih (w + 1) (by omega)
        rw [bI_f (by rw [e]; decide)] at this
        rw [nI_1]; exact this
      refine w_277_4 _ _ _ _ ⟨fun q => absurd q (nI_ge (a := w) (b := 6) (by omega) (by decide)), fun _ => ⟨fun z => m_266 w (by omega) hB hM ⟨fun y => no ?_, fun y => yes ?_⟩, fun z => yes ?_⟩⟩
      · rw [un, Bool.eq_false_iff.mpr (fun r => bI_0.mp z r), decide_eq_false (bI_0.mp y)]; rfl
      · rw [un, decide_eq_true (nz y), Bool.or_true]
      · rw [un, nz z, Bool.true_or]
  exact v_277 _ _ (lp 6 0 rfl)
/-- the reference's places -/
theorem m_278p {m : Nat} {A : Nat → Nat} (aim : Nat) (ha : aim < 3) {μ : wm_M} {Q : Int64 → wm_M → Prop} (hB : BA m A) (hX : VX A) (hp : A 2046 = 1) (hM : RM 91 A μ) (hW : wrkM A μ) (hT : Tre A aim 0 μ) (hk : Q (lN (plS A aim 6)) μ) : wm_Wp 0 278 97 [.ref 89, .null, .null, .null, .null, .null, .null, .null, .null, .null] μ (fun v ν => ∃ x, v = some (.long x) ∧ Q x ν) := by
  obtain ⟨t1, t2, t3⟩ := hT
  have bc3 := bc_lt A aim 0
  have lp : ∀ j w, w + j = 6 → wm_Wp 0 278 103 [.ref 89, .null, .null, .null, .null, .long (lN (plS A aim w)), .null, .int (nI w), .null, .null] μ (fun v ν => ∃ x, v = some (.long x) ∧ Q x ν) := by
    intro j
    induction j with
    | zero =>
      intro w hj
      have : w = 6 := by omega
      subst this
      exact w_278_103 _ _ _ _ ⟨fun _ => w_278_228 _ _ _ ⟨_, rfl, hk⟩, fun q => absurd (nI_le (Nat.le_refl 6) (by decide)) q⟩
    | succ j ih =>
      intro w hj
      have hw6 : w < 6 := by omega
      have vw : vp_in (nI w) 6 := vp_in_nI hw6 (by decide)
      have cw : (nI w).toNatClampNeg = w := nI_clamp (by omega)
      have bg := hB.group hw6
      have eg : gpA A 0 w = A (1995 + w) := rfl
      refine w_278_103 _ _ _ _ ⟨fun q => absurd q (nI_ge (a := w) (b := 6) (by omega) (by decide)), fun _ => m_266 w (by omega) hB hM ⟨fun z => w_278_222 _ _ _ _ ?_, fun z => w_278_122 _ _ _ _ ?_⟩⟩
      · rw [nI_1]
        have := ih (w + 1) (by omega)
        unfold plS at this
        rw [if_neg (bI_0.mp z)] at this
        exact this
      · have t := nz z
        obtain ⟨w1, w2⟩ := hW w hw6 t
        have sq3 := sq_lt A aim 0 (bcA A aim 0) (A (1995 + w))
        obtain ⟨s1, s2, s3⟩ := soo_le (w := w) (ch := chA A) (c := bcA A aim 0) (q := sq A aim 0 (bcA A aim 0) (A (1995 + w))) hB hX hp (by have := chA_le hB; omega) bc3 sq3
        have e98 := w2 _ _ bc3 sq3
        have nxt := ih (w + 1) (by omega)
        unfold plS at nxt
        rw [if_pos t, eg] at nxt
        have e106 : μ.1 106 (A (1995 + w)) = nI (sq A aim 0 (bcA A aim 0) (A (1995 + w))) := by
          rw [t2 _ bg]
          unfold sqI
          rw [if_pos (anG_in hw6 t eg)]
        generalize sq A aim 0 (bcA A aim 0) (A (1995 + w)) = q at *
        generalize cmA A w (chA A) (bcA A aim 0) q = X at *
        generalize bcA A aim 0 = c at *
        have rl : ∀ j r, r + j = 6 → wm_Wp 0 278 128 [.ref 89, .null, .null, .null, .null, .long (lN (plS A aim w)), .null, .int (nI w), .int (nI (plc A w X r)), .int (nI r)] μ (fun v ν => ∃ x, v = some (.long x) ∧ Q x ν) := by
          intro j
          induction j with
          | zero =>
            intro r hj
            have : r = 6 := by omega
            subst this
            have pl := plc_le A w X 6
            have wl := wt_le A w
            refine w_278_128 _ _ _ _ _ _ ⟨fun _ => w_278_205 _ _ _ _ _ ⟨vw, w_278_222 _ _ _ _ ?_⟩, fun q => absurd (nI_le (Nat.le_refl 6) (by decide)) q⟩
            rw [cw, t3 w hw6, nI_1, nI_l (by omega), nI_l (by omega), lN_mul, lN_add, Nat.mul_comm]
            exact nxt
          | succ j ihr =>
            intro r hj
            have r6 : r < 6 := by omega
            have br := hB.rival (show 6 * r + w < 36 by omega)
            have br : A (2004 + 6 * r + w) < 1000 := by rw [Nat.add_assoc]; exact br
            refine w_278_128 _ _ _ _ _ _ ⟨fun q => absurd q (nI_ge (a := r) (b := 6) (by omega) (by decide)), fun _ => ?_⟩
            rw [show ((2004 : Int32) + (6 : Int32) * nI r) + nI w = nI (2004 + 6 * r + w) by simp (disch := omega) only [nl, nI_add, pk_mul, pk_sub, pk_div, rm_n, nI_clamp, vi_, nI_leI, nI_ltI, nI_eq, nI_sb, nI_eqm, nI_meq, Nat.zero_add, Nat.add_zero], show (1995 : Int32) + nI w = nI (1995 + w) from nI_add 1995 w, nI_clamp (show 2004 + 6 * r + w < 2 ^ 31 by omega), nI_clamp (show 1995 + w < 2 ^ 31 by omega), hM (1995 + w) (by omega), hM (2004 + 6 * r + w) (by omega), nI_clamp (show A (1995 + w) < 2 ^ 31 by omega), e106, t1, show (((9 : Int32) * nI w) + ((3 : Int32) * nI c)) + nI q = nI (9 * w + 3 * c + q) by simp (disch := omega) only [nl, nI_add, pk_mul, pk_sub, pk_div, rm_n, nI_clamp, vi_, nI_leI, nI_ltI, nI_eq, nI_sb, nI_eqm, nI_meq, Nat.zero_add, Nat.add_zero], nI_clamp (show 9 * w + 3 * c + q < 2 ^ 31 by omega), e98, nI_1, nI_1]
            refine ⟨vp_in_nI (by omega) (by decide), vp_in_nI (by omega) (by decide), vp_in_nI bg (by decide), vp_in_nI (by omega) (by decide), fun z => ?_, fun z => ?_⟩
            · have z := (nI_leI (by omega) (by omega)).mp z
              have := ihr (r + 1) (by omega)
              unfold plc at this
              rw [if_neg (by omega)] at this
              rw [show (0 : Int32) = nI 0 from rfl, nI_add]
              exact this
            · have z : ¬ X ≤ A (2004 + 6 * r + w) := fun y => z ((nI_leI (by omega) (by omega)).mpr y)
              have := ihr (r + 1) (by omega)
              unfold plc at this
              rw [if_pos (by omega)] at this
              exact this
        exact rl 6 0 rfl
  exact w_278_97 _ _ (lp 6 0 rfl)
theorem p_tree (a b : Int32) {n : Nat} (hn : n < 8000) {μ : wm_M} (h : Rel n μ) : wm_OkJ 0 140 [.ref 0, .int a, .int b] μ (PrJ n 278 [.ref 89, .int a, .int b]) := by
  have h' := h
  obtain ⟨A, hA, hO⟩ := h
  have hM := hA.2.2.1
  have hV := hA.2.2.2.1.2.2.rv
  have ch := chA_le hA.1
  have hC := hA.cl (Nat.le_refl n)
  have hMr : ∀ k, RM 91 A (wm_si μ 88 k (μ.1 88 k + 1)) := fun k => hM.fr rfl
  have e6 : ∀ {ν : wm_M}, RM 91 A ν → ν.1 91 (2040 + 6) = nI (A 2046) := fun h => h 2046 (by decide)
  obtain ⟨sm1, sm2⟩ := sm_anT A 6
  have ref2 : (nI (A 2046) = 0 ∨ ¬ anT A 6 = true) → wm_Wp 0 140 26 [.ref 0, .null, .null] μ (fun v ν => ∃ x, v = some (.long x) ∧ PrJ n 278 [.ref 89, .int a, .int b] x ν) := fun q => w_140_26 _ _ (s_161 2 (by decide) ⟨_, rfl, v_278 _ _ _ _ (s_188 6 (by decide) ⟨fun _ => w_278_16 _ _ (s_185 2 (by decide) ⟨_, rfl, rfl, (h'.rf 2).up⟩), fun y => m_277 hA.1 (hMr 2) ⟨fun _ => w_278_16 _ _ (s_185 2 (by decide) ⟨_, rfl, rfl, (h'.rf 2).up⟩), fun x => (q.elim (fun q => absurd ((e6 (hMr 2)).trans q) y) (fun q => absurd (nz x) q))⟩⟩)⟩)
  refine v_140 _ _ _ _ ?_
  rw [hA.2.2.2.1.1.put]
  refine ⟨fun z => ref2 (Or.inl z), fun z => c_78 hC ⟨fun y => ref2 (Or.inr (fun r => ?_)), fun y => w_140_34 _ _ _ _ ?_⟩⟩
  · have y := (nI_eq (b := 0) (by omega) (by decide)).mp y
    rw [sm2.mp y] at r
    cases r
  have told : anT A 6 = true := by
    cases ht : anT A 6 with
    | true => rfl
    | false => exact absurd (by rw [sm2.mpr ht]; rfl) y
  have ref7 : ¬ (ir 2 a ∧ ir 5 b) → wm_Wp 0 140 52 [.ref 0, .null, .null] μ (fun v ν => ∃ x, v = some (.long x) ∧ PrJ n 278 [.ref 89, .int a, .int b] x ν) := fun q => w_140_52 _ _ (s_161 7 (by decide) ⟨_, rfl, v_278 _ _ _ _ (s_188 6 (by decide) ⟨fun y => absurd ((e6 (hMr 7)).symm.trans y) z, fun _ => m_277 hA.1 (hMr 7) ⟨fun x => absurd told (bI_0.mp x), fun _ => w_278_24 _ _ _ _ (s_184 ⟨fun _ => w_278_42 _ _ (s_185 7 (by decide) ⟨_, rfl, rfl, (h'.rf 7).up⟩), fun x1 => s_184 ⟨fun _ => w_278_42 _ _ (s_185 7 (by decide) ⟨_, rfl, rfl, (h'.rf 7).up⟩), fun x2 => absurd ⟨nz x1, nz x2⟩ q⟩⟩)⟩⟩)⟩)
  refine s_178 ⟨fun q => ref7 (fun r => bI_0.mp q r.1), fun q => s_178 ⟨fun r => ref7 (fun r' => bI_0.mp r r'.2), fun r => w_140_60 _ _ _ _ ?_⟩⟩
  obtain ⟨aim, haim, rfl⟩ := in_nI 2 (by decide) (nz q)
  obtain ⟨k, hk, rfl⟩ := in_nI 5 (by decide) (nz r)
  have hp : A 2046 = 1 := put_01 hA.1 (fun q => z (by rw [q]; rfl))
  refine c_17r hA hO (fun μ1 hA1 hO1 hK1 _ => c_49 (hA1.cl (Nat.le_refl n)) (fun μ2 hF2 => ?_))
  have hA2 : RA n A μ2 := hA1.sm (hF2.sm (fun _ => rfl) (fun _ => rfl))
  have hO2 : RO n μ2 := hO1.sm (hF2.sm (fun _ => rfl) (fun _ => rfl))
  refine c_30 hA2 hO2 (askd_of (hF2 63 (by decide) (by decide)) (hF2 64 (by decide) (by decide)) hK1) hp (fun μ4 hA4 hO4 hW4 => ?_)
  refine c_33 aim 0 (by omega) (by decide) (hA4.cl (Nat.le_refl n)) hW4 hp (fun μ5 hH hF5 => ?_)
  have hA5 : RA n A μ5 := hA4.sm (hF5.sm rfl (fun _ => rfl) (fun _ => rfl))
  have hO5 : RO n μ5 := hO4.sm (hF5.sm rfl (fun _ => rfl) (fun _ => rfl))
  have hR5 : Rel n μ5 := ⟨A, hA5, hO5⟩
  have hW5 : wrkd A μ5 := wrkd_of (hF5.1 76 (by decide) (by decide) (by decide)) (hF5.1 77 (by decide) (by decide) (by decide)) (hF5.1 78 (by decide) (by decide) (by decide)) hW4
  -- the reference's side
  have key : ∀ x, (∀ ν, Tre A aim 0 ν → wrkM A ν → RM 91 A ν → Rel (n + 1) ν → ((nI k = (0 : Int32) → x = ((ν.1 89 38)).toInt64) ∧ (¬ nI k = (0 : Int32) → wm_Wp 0 278 75 [.ref 89, .null, .int (nI k), .long (lN (alA A aim 0 (bcA A aim 0))), .null, .null, .null, .null, .null, .null] ν (fun v ν => ∃ z, v = some (.long z) ∧ x = z ∧ Rel (n + 1) ν)))) → PrJ n 278 [.ref 89, .int (nI aim), .int (nI k)] x μ5 := fun x hx => by
    refine v_278 _ _ _ _ (s_188 6 (by decide) ⟨fun y => absurd ((e6 hA5.2.2.1).symm.trans y) z, fun _ => m_277 hA.1 hA5.2.2.1 ⟨fun w => absurd told (bI_0.mp w), fun _ => w_278_24 _ _ _ _ (s_184 ⟨fun w => absurd (nz q) (bI_0.mp w), fun _ => s_184 ⟨fun w => absurd (nz r) (bI_0.mp w), fun _ => w_278_50 _ _ _ _ ?_⟩⟩)⟩⟩)
    refine m_268 (by omega) hA.1 hA.2.1 hV hp hA5.2.2.1 (fun ν hW hMν hS => ⟨z01, ?_⟩)
    have hS2 : Sm kS ν (wm_si ν 89 37 0) := (Sm.rf _ _).si rfl
    refine m_276 aim 0 (by omega) (by decide) hA.1 hA.2.1 hp (hMν.fr rfl) (fun w hw t => hW w hw t) (si_same _ _ _ _) (fun κ hT hF => ?_)
    have hR : Rel (n + 1) κ := (hR5.sm (((hS.tr hS2).tr hF.sm).le (fun _ _ q => kR_S q))).up
    obtain ⟨g1, g2⟩ := hx κ hT (fun w hw t => by
      rw [hF.1 98 (by decide) (by decide) (by decide) (by decide), hF.1 99 (by decide) (by decide) (by decide) (by decide)]
      exact hW w hw t) (hMν.fr (hF.1 91 (by decide) (by decide) (by decide) (by decide))) hR
    exact ⟨fun e => ⟨_, rfl, g1 e, hR⟩, g2⟩
  have tk : (nI k).toInt = k := nI_toInt (by omega)
  rw [tk]
  have kc : k = 0 ∨ k = 1 ∨ k = 5 ∨ (2 ≤ k ∧ k ≤ 4) := by omega
  obtain ⟨c1, c2, c3⟩ := hH
  have bc3 := bc_lt A aim 0
  refine ⟨fun w => w_140_149 _ _ _ ?_, fun w => ?_, fun w => ?_, fun w => ?_, trivial⟩
  · have k24 : 2 ≤ k ∧ k ≤ 4 := by
      have a0 := w (0, 33) (by decide)
      have a1 := w (1, 42) (by decide)
      have a5 := w (5, 50) (by decide)
      have a0 : ¬ (k : Int) = 0 := a0
      have a1 : ¬ (k : Int) = 1 := a1
      have a5 : ¬ (k : Int) = 5 := a5
      omega
    rw [show nI k - (2 : Int32) = nI (k - 2) from pk_sub (b := 2) k24.1, nI_clamp (show k - 2 < 2 ^ 31 by omega), c3 _ (by omega)]
    refine ⟨vp_in_nI (by omega) (by decide), _, rfl, key _ (fun ν hT hW hMν hR => ⟨fun e => absurd ((nI_eq (b := 0) (by omega) (by decide)).mp e) (by omega), fun _ => w_278_75 _ _ _ _ ⟨fun e => absurd ((nI_eq (b := 1) (by omega) (by decide)).mp e) (by omega), fun _ => w_278_82 _ _ _ ⟨fun e => absurd ((nI_leI (a := 5) (by decide) (by omega)).mp e) (by omega), fun _ => ?_⟩⟩⟩)⟩
    rw [show nI k - (2 : Int32) = nI (k - 2) from pk_sub (b := 2) k24.1, nI_clamp (show k - 2 < 2 ^ 31 by omega), hT.2.1 _ (by omega)]
    exact ⟨vp_in_nI (by omega) (by decide), _, rfl, rfl, hR⟩
  · have w : k = 0 := by omega
    refine w_140_124 _ _ ⟨_, rfl, key _ (fun ν hT hW hMν hR => ⟨fun _ => by rw [c1, hT.1], fun e => absurd (by rw [w]; rfl) e⟩)⟩
  · have w : k = 1 := by omega
    refine w_140_133 _ _ ⟨_, rfl, key _ (fun ν hT hW hMν hR => ⟨fun e => absurd ((nI_eq (b := 0) (by omega) (by decide)).mp e) (by omega), fun _ => w_278_75 _ _ _ _ ⟨fun _ => ⟨_, rfl, c2, hR⟩, fun e => absurd (by rw [w]; rfl) e⟩⟩)⟩
  · have w : k = 5 := by omega
    refine w_140_141 _ _ (c_36 aim (by omega) (hA5.cl (Nat.le_refl n)) hW5 hp ⟨c1, c2, c3⟩ ⟨_, rfl, key _ (fun ν hT hW hMν hR => ⟨fun e => absurd ((nI_eq (b := 0) (by omega) (by decide)).mp e) (by omega), fun _ => w_278_75 _ _ _ _ ⟨fun e => absurd ((nI_eq (b := 1) (by omega) (by decide)).mp e) (by omega), fun _ => w_278_82 _ _ _ ⟨fun _ => m_278p aim (by omega) hA.1 hA.2.1 hp hMν hW hT ⟨rfl, hR⟩, fun e => absurd (by rw [w]; exact nI_le (a := 5) (Nat.le_refl 5) (by decide)) e⟩⟩⟩)⟩)
theorem p_worth {n : Nat} (hn : n < 8000) {μ : wm_M} (h : Rel n μ) : wm_OkJ 0 141 [.ref 0] μ (PrJ n 279 [.ref 89]) := by
  have h' := h
  obtain ⟨A, hA, hO⟩ := h
  have hM := hA.2.2.1
  have hV := hA.2.2.2.1.2.2.rv
  have hC := hA.cl (Nat.le_refl n)
  have hMr : ∀ k, RM 91 A (wm_si μ 88 k (μ.1 88 k + 1)) := fun k => hM.fr rfl
  have e6 : ∀ {ν : wm_M}, RM 91 A ν → ν.1 91 (2040 + 6) = nI (A 2046) := fun h => h 2046 (by decide)
  obtain ⟨sm1, sm2⟩ := sm_anT A 6
  have ref2 : (nI (A 2046) = 0 ∨ ¬ anT A 6 = true) → wm_Wp 0 141 26 [.ref 0, .null, .null] μ (fun v ν => ∃ x, v = some (.long x) ∧ PrJ n 279 [.ref 89] x ν) := fun q => w_141_26 _ _ (s_161 2 (by decide) ⟨_, rfl, v_279 _ _ (s_188 6 (by decide) ⟨fun _ => w_279_16 _ _ (s_185 2 (by decide) ⟨_, rfl, rfl, (h'.rf 2).up⟩), fun y => m_277 hA.1 (hMr 2) ⟨fun _ => w_279_16 _ _ (s_185 2 (by decide) ⟨_, rfl, rfl, (h'.rf 2).up⟩), fun x => (q.elim (fun q => absurd ((e6 (hMr 2)).trans q) y) (fun q => absurd (nz x) q))⟩⟩)⟩)
  refine v_141 _ _ ?_
  rw [hA.2.2.2.1.1.put]
  refine ⟨fun z => ref2 (Or.inl z), fun z => c_78 hC ⟨fun y => ref2 (Or.inr (fun r => ?_)), fun y => w_141_34 _ _ ?_⟩⟩
  · have y := (nI_eq (b := 0) (by omega) (by decide)).mp y
    rw [sm2.mp y] at r
    cases r
  have told : anT A 6 = true := by
    cases ht : anT A 6 with
    | true => rfl
    | false => exact absurd (by rw [sm2.mpr ht]; rfl) y
  have hp : A 2046 = 1 := put_01 hA.1 (fun q => z (by rw [q]; rfl))
  refine c_17r hA hO (fun μ1 hA1 hO1 hK1 _ => c_49 (hA1.cl (Nat.le_refl n)) (fun μ2 hF2 => ?_))
  have hA2 : RA n A μ2 := hA1.sm (hF2.sm (fun _ => rfl) (fun _ => rfl))
  have hO2 : RO n μ2 := hO1.sm (hF2.sm (fun _ => rfl) (fun _ => rfl))
  refine c_30 hA2 hO2 (askd_of (hF2 63 (by decide) (by decide)) (hF2 64 (by decide) (by decide)) hK1) hp (fun μ4 hA4 hO4 hW4 => ?_)
  refine c_33 0 1 (by decide) (by decide) (hA4.cl (Nat.le_refl n)) hW4 hp (fun μ5 hH hF5 => ?_)
  have hA5 : RA n A μ5 := hA4.sm (hF5.sm rfl (fun _ => rfl) (fun _ => rfl))
  have hO5 : RO n μ5 := hO4.sm (hF5.sm rfl (fun _ => rfl) (fun _ => rfl))
  have hW5 : wrkd A μ5 := wrkd_of (hF5.1 76 (by decide) (by decide) (by decide)) (hF5.1 77 (by decide) (by decide) (by decide)) (hF5.1 78 (by decide) (by decide) (by decide)) hW4
  refine c_33 0 0 (by decide) (by decide) (hA5.cl (Nat.le_refl n)) hW5 hp (fun μ6 hH6 hF6 => ⟨_, rfl, ?_⟩)
  have hA6 : RA n A μ6 := hA5.sm (hF6.sm rfl (fun _ => rfl) (fun _ => rfl))
  have hO6 : RO n μ6 := hO5.sm (hF6.sm rfl (fun _ => rfl) (fun _ => rfl))
  have hR6 : Rel n μ6 := ⟨A, hA6, hO6⟩
  rw [hH.2.1, hH6.2.1]
  refine v_279 _ _ (s_188 6 (by decide) ⟨fun y => absurd ((e6 hA6.2.2.1).symm.trans y) z, fun _ => m_277 hA.1 hA6.2.2.1 ⟨fun w => absurd told (bI_0.mp w), fun _ => w_279_24 _ _ ?_⟩⟩)
  refine m_268 (by omega) hA.1 hA.2.1 hV hp hA6.2.2.1 (fun ν hW hMν hS => ⟨o01, ?_⟩)
  have hS2 : Sm kS ν (wm_si ν 89 37 1) := (Sm.rf _ _).si rfl
  refine m_276 0 1 (by decide) (by decide) hA.1 hA.2.1 hp (hMν.fr rfl) (fun w hw t => hW w hw t) (si_same _ _ _ _) (fun κ hT hF => ⟨z01, ?_⟩)
  have hS3 : Sm kS κ (wm_si κ 89 37 0) := (Sm.rf _ _).si rfl
  have hMκ : RM 91 A κ := hMν.fr (hF.1 91 (by decide) (by decide) (by decide) (by decide))
  refine m_276 0 0 (by decide) (by decide) hA.1 hA.2.1 hp (hMκ.fr rfl) (fun w hw t => ?_) (si_same _ _ _ _) (fun ρ hT' hF' => ⟨_, rfl, rfl, ?_⟩)
  · show κ.1 99 w = _ ∧ ∀ c q, c < 3 → q < 3 → κ.1 98 (9 * w + 3 * c + q) = _
    rw [hF.1 98 (by decide) (by decide) (by decide) (by decide), hF.1 99 (by decide) (by decide) (by decide) (by decide)]
    exact hW w hw t
  · exact (hR6.sm (((((hS.tr hS2).tr hF.sm).tr hS3).tr hF'.sm).le (fun _ _ q => kR_S q))).up
