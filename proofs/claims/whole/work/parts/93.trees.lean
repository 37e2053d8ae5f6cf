/-! ===== the reference: worksAll, aimOf, hasTold, trees ===== -/
def wrkM (A : Nat → Nat) (μ : wm_M) : Prop := ∀ w, w < 6 → 0 < tnA A w 12 → μ.1 99 w = nI (sooA A w (chA A)) ∧ ∀ c q, c < 3 → q < 3 → μ.1 98 (9 * w + 3 * c + q) = nI (cmA A w (chA A) c q)
theorem m_268 {m : Nat} {A : Nat → Nat} (hm : m < 10000) {μ : wm_M} {Q : wm_M → Prop} (hB : BA m A) (hX : VX A) (hV : RV A) (hp : A 2046 = 1) (hM : RM 91 A μ) (hk : ∀ ν, wrkM A ν → RM 91 A ν → Sm kS μ ν → Q ν) : wm_OkV 0 268 [.ref 89] μ Q := by
  have bt := hB.tick
  have ch := chA_le hB
  have e10 : ∀ {ν : wm_M}, RM 91 A ν → ν.1 91 (2040 + 10) = nI (A 2050) := fun h => h 2050 (by decide)
  refine v_268 _ _ (s_188 10 (by decide) ?_)
  rw [e10 hM]
  refine m_246 (A 2050) (by omega) hB hV hM (fun η hL hS => ?_)
  have hMη : RM 91 A η := fun j hj => (hS 91 j rfl).trans (hM j hj)
  refine m_222 hB hX hV hMη hm (fun ρ hW => ?_)
  have hMρ : RM 91 A ρ := fun j hj => (hW 91 j rfl).trans (hMη j hj)
  have hLρ : LR A (hq (A 2050)) 1296 ρ := fun hr c k a b d e f => by rw [hW 93 _ rfl, hW 94 _ rfl]; exact hL hr c k a b d e f
  have hSρ : Sm kS μ ρ := (hS.le (fun _ _ q => kS_L q)).tr (hW.le (fun _ _ q => kL_W (kS_L q)))
  have lp : ∀ j w ν, w + j = 6 → FwO ρ ν → (∀ w', w' < w → 0 < tnA A w' 12 → ν.1 99 w' = nI (sooA A w' (chA A)) ∧ ∀ c q, c < 3 → q < 3 → ν.1 98 (9 * w' + 3 * c + q) = nI (cmA A w' (chA A) c q)) → wm_Wp 0 268 17 [.ref 89, .int (nI (chA A)), .int (nI w)] ν (fun w ν => w = none ∧ Q ν) := by
    intro j
    induction j with
    | zero =>
      intro w ν hj hF hk'
      have : w = 6 := by omega
      subst this
      exact w_268_17 _ _ _ _ ⟨fun _ => w_268_43 _ _ ⟨rfl, hk ν hk' (hMρ.fr (hF.1 91 (by decide) (by decide))) (hSρ.tr hF.sm)⟩, fun q => absurd (nI_le (Nat.le_refl 6) (by decide)) q⟩
    | succ j ih =>
      intro w ν hj hF hk'
      have hw6 : w < 6 := by omega
      have hMν : RM 91 A ν := hMρ.fr (hF.1 91 (by decide) (by decide))
      have hLν : LR A (hq (A 2050)) 1296 ν := fun hr c k a b d e f => by rw [hF.1 93 (by decide) (by decide), hF.1 94 (by decide) (by decide)]; exact hLρ hr c k a b d e f
      refine w_268_17 _ _ _ _ ⟨fun q => absurd q (nI_ge (a := w) (b := 6) (by omega) (by decide)), fun _ => m_266 w (by omega) hB hMν ⟨fun z => w_268_37 _ _ _ _ ?_, fun z => m_267 w (chA A) hw6 (by omega) (by omega) hB hX hp hMν hLν (fun σ h99 h98 h99' h98' hF' => w_268_37 _ _ _ _ ?_)⟩⟩
      · rw [nI_1]
        refine ih (w + 1) ν (by omega) hF (fun w' hw' t => ?_)
        by_cases e : w' = w
        · subst e; exact absurd t (bI_0.mp z)
        · exact hk' w' (by omega) t
      · rw [nI_1]
        refine ih (w + 1) σ (by omega) (hF.tr hF') (fun w' hw' t => ?_)
        by_cases e : w' = w
        · subst e; exact ⟨h99, h98⟩
        · obtain ⟨a, b⟩ := hk' w' (by omega) t
          refine ⟨by rw [h99' w' e]; exact a, fun c q hc hq => ?_⟩
          rw [h98' _ (by omega)]; exact b c q hc hq
  exact lp 6 0 ρ rfl (FwO.rf ρ) (fun w' h => by omega)
theorem m_273 {m : Nat} {A : Nat → Nat} (one w : Nat) (ho : one < 2) (hw : w < 6) {μ : wm_M} {Q : Int32 → wm_M → Prop} (hB : BA m A) (hM : RM 91 A μ) (h37 : μ.1 89 37 = nI one) (hq : Q (nI (gpA A one w)) μ) : wm_OkI 0 273 [.ref 89, .int (nI w)] μ Q := by
  refine v_273 _ _ _ ?_
  rw [h37]
  refine ⟨fun z => w_273_11 _ _ _ ?_, fun z => ⟨_, rfl, ?_⟩⟩
  · have z := (nI_eq (b := 0) (by omega) (by decide)).mp z
    rw [show (1995 : Int32) + nI w = nI (1995 + w) from nI_add 1995 w, nI_clamp (show 1995 + w < 2 ^ 31 by omega), hM (1995 + w) (by omega)]
    refine ⟨vp_in_nI (by omega) (by decide), _, rfl, ?_⟩
    unfold gpA at hq
    rw [if_neg (by omega)] at hq
    exact hq
  · have z : ¬ one = 0 := fun r => z (by rw [r]; rfl)
    unfold gpA at hq
    rw [if_pos (by omega)] at hq
    exact hq
theorem m_275 {m : Nat} {A : Nat → Nat} (one g : Nat) (ho : one < 2) (hg : g < 3) {μ : wm_M} {Q : Int32 → wm_M → Prop} (hB : BA m A) (hM : RM 91 A μ) (h37 : μ.1 89 37 = nI one) (hq : Q (bI (anG A one g 6 = true)) μ) : wm_OkI 0 275 [.ref 89, .int (nI g)] μ Q := by
  have lp : ∀ j w, w + j = 6 → wm_Wp 0 275 4 [.ref 89, .int (nI g), .int (bI (anG A one g w = true)), .int (nI w)] μ (fun v ν => ∃ x, v = some (.int x) ∧ Q x ν) := by
    intro j
    induction j with
    | zero =>
      intro w hj
      have : w = 6 := by omega
      subst this
      exact w_275_4 _ _ _ _ _ ⟨fun _ => w_275_43 _ _ _ ⟨bI_01, _, rfl, hq⟩, fun q => absurd (nI_le (Nat.le_refl 6) (by decide)) q⟩
    | succ j ih =>
      intro w hj
      have hw6 : w < 6 := by omega
      have gl := gp_lt (one := one) hB hw6
      have yes : anG A one g (w + 1) = true → wm_Wp 0 275 31 [.ref 89, .int (nI g), .null, .int (nI w)] μ (fun v ν => ∃ x, v = some (.int x) ∧ Q x ν) := fun e => by
        refine w_275_31 _ _ _ _ ?_
        have := ih (w + 1) (by omega)
        rw [bI_t e] at this
        rw [nI_1]; exact this
      have no : anG A one g (w + 1) = false → wm_Wp 0 275 35 [.ref 89, .int (nI g), .null, .int (nI w)] μ (fun v ν => ∃ x, v = some (.int x) ∧ Q x ν) := fun e => by
        refine w_275_35 _ _ _ _ ?_
        have := ih (w + 1) (by omega)
        rw [bI_f (by rw [e]; decide)] at this
        rw [nI_1]; exact this
      have un : anG A one g (w + 1) = (anG A one g w || (decide (0 < tnA A w 12) && decide (gpA A one w = g))) := rfl
      refine w_275_4 _ _ _ _ _ ⟨fun q => absurd q (nI_ge (a := w) (b := 6) (by omega) (by decide)), fun _ => ⟨fun z => m_266 w (by omega) hB hM ⟨fun y => no ?_, fun y => m_273 one w ho hw6 hB hM h37 ⟨fun x => yes ?_, fun x => no ?_⟩⟩, fun z => yes ?_⟩⟩
      · have z : anG A one g w = false := Bool.eq_false_iff.mpr (fun r => bI_0.mp z r)
        rw [un, z, decide_eq_false (bI_0.mp y)]; rfl
      · rw [un, decide_eq_true (nz y), decide_eq_true ((nI_eq (by omega) (by omega)).mp x), Bool.and_true, Bool.or_true]
      · have z : anG A one g w = false := Bool.eq_false_iff.mpr (fun r => bI_0.mp z r)
        rw [un, z, decide_eq_false (show ¬ gpA A one w = g from fun r => x (by rw [r])), Bool.and_false]; rfl
      · rw [un, nz z, Bool.true_or]
  exact v_275 _ _ _ (lp 6 0 rfl)
/-- aimOf over a group, by a choice q -/
theorem m_274 {m : Nat} {A : Nat → Nat} (aim c one : Nat) (x3 x4 : Int32) (P : Nat → Prop) (qf : Nat → Nat) (ha : aim < 3) (hc3 : c < 3) (ho : one < 2) (hq3 : ∀ w, w < 6 → P w → qf w < 3) {μ : wm_M} {Q : Int64 → wm_M → Prop} (hB : BA m A) (hX : VX A) (hp : A 2046 = 1) (hM : RM 91 A μ) (hW : wrkM A μ) (h37 : μ.1 89 37 = nI one) (h104 : ∀ w, w < 6 → μ.1 104 w = nI (wtA A w)) (hP : (x3 = -1 ∧ (∀ w, P w) ∧ ∀ w, w < 6 → 0 < tnA A w 12 → μ.1 105 (gpA A one w) = nI (qf w)) ∨ (∃ g q : Nat, g < 3 ∧ q < 3 ∧ x3 = nI g ∧ x4 = nI q ∧ (∀ w, P w ↔ gpA A one w = g) ∧ ∀ w, qf w = q)) (F : Nat → Nat) (F0 : F 0 = 0) (Fs : ∀ w, w < 6 → 0 < tnA A w 12 → P w → F (w + 1) = cmb aim (F w) (vlA A aim c (qf w) w)) (Fn : ∀ w, w < 6 → ¬ (0 < tnA A w 12 ∧ P w) → F (w + 1) = F w) (Fb : ∀ w, w ≤ 6 → F w ≤ 24975 * w) (Fz : ∀ w, w ≤ 6 → (∀ w', w' < w → ¬ (0 < tnA A w' 12 ∧ P w')) → F w = 0) (hk : Q (lN (F 6)) μ) : wm_OkJ 0 274 [.ref 89, .int (nI aim), .int (nI c), .int x3, .int x4] μ Q := by
  have lp : ∀ j w (y : Nat), w + j = 6 → y < 2 → (y = 0 → ∀ w', w' < w → ¬ (0 < tnA A w' 12 ∧ P w')) → wm_Wp 0 274 9 [.ref 89, .int (nI aim), .int (nI c), .int x3, .int x4, .long (lN (F w)), .null, .int (nI y), .int (nI w), .null, .null, .null] μ (fun v ν => ∃ x, v = some (.long x) ∧ Q x ν) := by
    intro j
    induction j with
    | zero =>
      intro w y hj hy hn
      have : w = 6 := by omega
      subst this
      exact w_274_9 _ _ _ _ _ _ _ _ _ ⟨fun _ => w_274_160 _ _ _ ⟨_, rfl, hk⟩, fun q => absurd (nI_le (Nat.le_refl 6) (by decide)) q⟩
    | succ j ih =>
      intro w y hj hy hn
      have hw6 : w < 6 := by omega
      have vw : vp_in (nI w) 6 := vp_in_nI hw6 (by decide)
      have cw : (nI w).toNatClampNeg = w := nI_clamp (by omega)
      have gl := gp_lt (one := one) hB hw6
      have skip : ¬ (0 < tnA A w 12 ∧ P w) → wm_Wp 0 274 154 [.ref 89, .int (nI aim), .int (nI c), .int x3, .int x4, .long (lN (F w)), .null, .int (nI y), .int (nI w), .null, .null, .null] μ (fun v ν => ∃ x, v = some (.long x) ∧ Q x ν) := fun q => by
        refine w_274_154 _ _ _ _ _ _ _ _ _ ?_
        rw [nI_1, ← Fn w hw6 q]
        refine ih (w + 1) y (by omega) hy (fun e w' hw' => ?_)
        by_cases z : w' = w
        · subst z; exact q
        · exact hn e w' (by omega)
      have hit : 0 < tnA A w 12 → P w → wm_Wp 0 274 43 [.ref 89, .int (nI aim), .int (nI c), .int x3, .int x4, .long (lN (F w)), .null, .int (nI y), .int (nI w), .null, .null, .null] μ (fun v ν => ∃ x, v = some (.long x) ∧ Q x ν) := fun t hPw => by
        have q3 := hq3 w hw6 hPw
        obtain ⟨w1, w2⟩ := hW w hw6 t
        obtain ⟨s1, s2, s3⟩ := soo_le (w := w) (ch := chA A) (c := c) (q := qf w) hB hX hp (by have := chA_le hB; omega) hc3 q3
        have wl := wt_le A w
        have fb := Fb w (by omega)
        have fs := Fs w hw6 t hPw
        have vl : vlA A aim c (qf w) w ≤ 24975 := vl_le hB hX hp hc3 q3
        have vd : vlA A aim c (qf w) w = if aim = 0 then wtA A w * cmA A w (chA A) c (qf w) else if aim = 1 then cmA A w (chA A) c (qf w) else cmA A w (chA A) c (qf w) - sooA A w (chA A) := rfl
        have e98 : μ.1 98 (9 * w + 3 * c + qf w) = nI (cmA A w (chA A) c (qf w)) := w2 c (qf w) hc3 q3
        have go : ∀ x, x = lN (F (w + 1)) → wm_Wp 0 274 151 [.ref 89, .int (nI aim), .int (nI c), .int x3, .int x4, .long x, .null, .null, .int (nI w), .null, .null, .null] μ (fun v ν => ∃ x, v = some (.long x) ∧ Q x ν) := fun x hx => by
          subst hx
          refine w_274_151 _ _ _ _ _ _ _ _ (w_274_154 _ _ _ _ _ _ _ _ _ ?_)
          rw [nI_1]
          exact ih (w + 1) 1 (by omega) (by decide) (fun e => by omega)
        have mean : aim = 0 → lN (F w) + ((nI (wtA A w)).toInt64 * (nI (cmA A w (chA A) c (qf w))).toInt64) = lN (F (w + 1)) := fun e => by
          rw [if_pos e] at vd
          rw [nI_l (by omega), nI_l (by omega), lN_mul, lN_add, fs]
          unfold cmb
          rw [if_pos e, vd]
        -- the greater one
        have mx : ∀ v : Nat, ¬ aim = 0 → v = vlA A aim c (qf w) w → ((nI y = (0 : Int32) → wm_Wp 0 274 142 [.ref 89, .int (nI aim), .int (nI c), .int x3, .int x4, .null, .null, .null, .int (nI w), .null, .long (lN v), .null] μ (fun v ν => ∃ x, v = some (.long x) ∧ Q x ν)) ∧ (¬ nI y = (0 : Int32) → (((lg_cmp (lN v) (lN (F w))) ≤ (0 : Int32) → wm_Wp 0 274 147 [.ref 89, .int (nI aim), .int (nI c), .int x3, .int x4, .long (lN (F w)), .null, .null, .int (nI w), .null, .null, .null] μ (fun v ν => ∃ x, v = some (.long x) ∧ Q x ν)) ∧ (¬ (lg_cmp (lN v) (lN (F w))) ≤ (0 : Int32) → wm_Wp 0 274 142 [.ref 89, .int (nI aim), .int (nI c), .int x3, .int x4, .null, .null, .null, .int (nI w), .null, .long (lN v), .null] μ (fun v ν => ∃ x, v = some (.long x) ∧ Q x ν))))) := fun v na hv => by
          have fm : F (w + 1) = max (F w) v := by
            rw [fs, hv]
            unfold cmb
            rw [if_neg na]
          have f1 : F w ≤ v → wm_Wp 0 274 142 [.ref 89, .int (nI aim), .int (nI c), .int x3, .int x4, .null, .null, .null, .int (nI w), .null, .long (lN v), .null] μ (fun v ν => ∃ x, v = some (.long x) ∧ Q x ν) := fun le => w_274_142 _ _ _ _ _ _ _ _ (go _ (by rw [fm, show max (F w) v = v by omega]))
          refine ⟨fun z => f1 ?_, fun _ => ⟨fun z => w_274_147 _ _ _ _ _ _ _ _ (go _ ?_), fun z => f1 ?_⟩⟩
          · have z := (nI_eq (b := 0) (by omega) (by decide)).mp z
            rw [Fz w (by omega) (hn z)]; exact Nat.zero_le _
          · have z := (lN_le (by omega) (by omega)).mp ((lg_cmp_le _ _).mp z)
            rw [fm, show max (F w) v = F w by omega]
          · have z : ¬ v ≤ F w := fun r => z ((lg_cmp_le _ _).mpr ((lN_le (by omega) (by omega)).mpr r))
            omega
        have at105 : ¬ aim = 0 → wm_Wp 0 274 105 [.ref 89, .int (nI aim), .int (nI c), .int x3, .int x4, .long (lN (F w)), .null, .int (nI y), .int (nI w), .int (nI (cmA A w (chA A) c (qf w))), .null, .null] μ (fun v ν => ∃ x, v = some (.long x) ∧ Q x ν) := fun na => by
          rw [if_neg na] at vd
          refine w_274_105 _ _ _ _ _ _ _ _ _ _ ⟨fun z => ?_, fun z => w_274_116 _ _ _ _ _ _ _ _ _ _ ⟨vw, ?_⟩⟩
          · have z := (nI_eq (b := 1) (by omega) (by decide)).mp z
            rw [if_pos z] at vd
            rw [nI_l (by omega)]
            exact mx _ na vd.symm
          · have z : ¬ aim = 1 := fun r => z (by rw [r]; rfl)
            rw [if_neg z] at vd
            rw [cw, w1, pk_sub s3, nI_l (by omega)]
            exact mx _ na vd.symm
        have ep : ((((9 : Int32) * nI w) + ((3 : Int32) * nI c)) + nI (qf w)) = nI (9 * w + 3 * c + qf w) := by simp (disch := omega) only [nl, nI_add, pk_mul, pk_sub, pk_div, rm_n, nI_clamp, vi_, nI_leI, nI_ltI, nI_eq, nI_sb, nI_eqm, nI_meq, Nat.zero_add, Nat.add_zero]
        have fin54 : vp_in (nI (9 * w + 3 * c + qf w)) 54 := vp_in_nI (by omega) (by decide)
        refine w_274_43 _ _ _ _ _ _ _ _ _ ⟨fun z => ?_, fun z => ?_⟩
        · rcases hP with ⟨_, _, p3⟩ | ⟨g, q, g3, _, p1, _⟩
          · refine m_273 one w ho hw6 hB hM h37 ⟨vp_in_nI gl (by decide), ?_⟩
            rw [nI_clamp (show gpA A one w < 2 ^ 31 by omega), p3 w hw6 t, ep, nI_clamp (show 9 * w + 3 * c + qf w < 2 ^ 31 by omega), e98, cw, h104 w hw6]
            exact ⟨fin54, fun e => ⟨vw, go _ (mean ((nI_eq (b := 0) (by omega) (by decide)).mp e))⟩, fun e => at105 (fun r => e (by rw [r]; rfl))⟩
          · rw [p1] at z
            exact absurd z (nI_n1 (by omega))
        · rcases hP with ⟨p1, _, _⟩ | ⟨g, q, g3, _, p1, p2, _, p4⟩
          · exact absurd p1 z
          · rw [p2, ← p4 w, ep, nI_clamp (show 9 * w + 3 * c + qf w < 2 ^ 31 by omega), e98, cw, h104 w hw6]
            rw [p2, ← p4 w] at go at105
            exact ⟨fin54, fun e => ⟨vw, go _ (mean ((nI_eq (b := 0) (by omega) (by decide)).mp e))⟩, fun e => at105 (fun r => e (by rw [r]; rfl))⟩
      refine w_274_9 _ _ _ _ _ _ _ _ _ ⟨fun q => absurd q (nI_ge (a := w) (b := 6) (by omega) (by decide)), fun _ => m_266 w (by omega) hB hM ⟨fun z => skip (fun r => bI_0.mp z r.1), fun z => ⟨fun e => hit (nz z) ?_, fun e => m_273 one w ho hw6 hB hM h37 ⟨fun x => hit (nz z) ?_, fun x => skip (fun r => x ?_)⟩⟩⟩⟩
      · rcases hP with ⟨_, p2, _⟩ | ⟨g, q, g3, _, p1, _⟩
        · exact p2 w
        · rw [p1] at e
          exact absurd e (nI_n1 (by omega))
      · rcases hP with ⟨p1, _⟩ | ⟨g, q, g3, _, p1, _, p3, _⟩
        · exact absurd p1 e
        · rw [p1] at x
          exact (p3 w).mpr ((nI_eq (by omega) (by omega)).mp x)
      · rcases hP with ⟨p1, _⟩ | ⟨g, q, g3, _, p1, _, p3, _⟩
        · exact absurd p1 e
        · rw [p1, (p3 w).mp r.2]
  have := lp 6 0 0 rfl (by decide) (fun _ w' h => by omega)
  rw [F0] at this
  exact v_274 _ _ _ _ _ _ this
