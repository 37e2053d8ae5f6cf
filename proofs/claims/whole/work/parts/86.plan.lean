/-! ===== the reference: plans; plan ===== -/
def Fp (μ ν : wm_M) : Prop := (∀ d, d ≠ 97 → d ≠ 89 → ν.1 d = μ.1 d) ∧ ∀ i, i ≠ 27 → ν.1 89 i = μ.1 89 i
theorem Fp.sm {μ ν : wm_M} (h : Fp μ ν) : Sm kS μ ν := fun c i q => by
  by_cases e : c = 89
  · subst e
    refine h.2 i (fun r => ?_)
    subst r
    exact absurd q (by decide)
  · refine congrFun (h.1 c (fun r => ?_) e) i
    subst r
    rw [show kS 97 i = false from rfl] at q
    cases q
theorem eo_wy {A : Nat → Nat} {w tab ch s0 t0 c : Nat} : wyA A w tab ch s0 t0 c = (eo (LF A w tab ch s0 t0) c 24).map (fun s => (s, LF A w tab ch s0 t0 s)) := rfl
theorem LabM_LF {A : Nat → Nat} {w tab ch s0 t0 : Nat} {ℓ : Nat → Nat} {μ : wm_M} (hL : LabM ℓ μ) (h : IsLab (stF A w tab) (whA A) ch s0 t0 ℓ) (ht : t0 ≤ 120) : LabM (LF A w tab ch s0 t0) μ := fun s hs => by
  rw [show LF A w tab ch s0 t0 s = ℓ s from lab_eq h ht hs]
  exact hL s hs
theorem m_256 {m : Nat} {A : Nat → Nat} (w tab ch s0 t0 c h0 : Nat) (hs0 : s0 < 864) (ht0 : t0 ≤ 120) (hc0 : 0 < ch) (hch : ch < 10000) (hx : s0 % 3 < A 2040) (hc : c < 36) (h0t : h0 ≤ hq t0) {μ : wm_M} {Q : Int32 → wm_M → Prop} (hB : BA m A) (hM : RM 91 A μ) (hS : LSt A w tab h0 10368 μ) (hL : LabM (LF A w tab ch s0 t0) μ) (h25 : μ.1 89 25 = nI s0) (k0 : ∀ ν, Fp μ ν → wyA A w tab ch s0 t0 c = none → Q 0 ν) (k1 : ∀ ν s T, Fp μ ν → wyA A w tab ch s0 t0 c = some (s, T) → (plA A w tab ch s0 t0 s).length ≤ 120 → ν.1 89 27 = nI (plA A w tab ch s0 t0 s).length → (∀ j, j < (plA A w tab ch s0 t0 s).length → ν.1 97 j = nI ((plA A w tab ch s0 t0 s).getD j 0)) → Q 1 ν) : wm_OkI 0 256 [.ref 89, .int (nI ch), .int (nI c)] μ Q := by
  have isL : IsLab (stF A w tab) (whA A) ch s0 t0 (LF A w tab ch s0 t0) := labF_is hc0 hs0 ht0
  refine v_256 _ _ _ _ (m_254 (ℓ := LF A w tab ch s0 t0) c hc (fun s hs => hL s hs) ?_)
  rw [eo_wy] at k0 k1
  cases ho : eo (LF A w tab ch s0 t0) c 24 with
  | none =>
    refine ⟨fun _ => ⟨z01, _, rfl, k0 _ ⟨fun d _ b => si_ne _ _ _ b, fun i q => si_other _ _ q⟩ (by rw [ho]; rfl)⟩, fun q => absurd rfl q⟩
  | some s =>
    obtain ⟨r1, r2, r3⟩ := eo_in 24 ho
    have hs : s < 864 := by omega
    rw [ho] at k1
    have k2 : ∀ ν, Fp μ ν → (plA A w tab ch s0 t0 s).length ≤ 120 → ν.1 89 27 = nI (plA A w tab ch s0 t0 s).length → (∀ j, j < (plA A w tab ch s0 t0 s).length → ν.1 97 j = nI ((plA A w tab ch s0 t0 s).getD j 0)) → Q 1 ν := fun ν a => k1 ν s _ a rfl
    clear k1
    refine ⟨fun q => absurd q (nI_n1 hs), fun _ => ?_⟩
    show wm_Wp 0 256 18 [.ref 89, .int (nI ch), .null, .int (nI s), .null] _ _
    have lt0 : ∀ p, p < 864 → LF A w tab ch s0 t0 p ≤ t0 → p = s0 := fun p hp q => by
      have := lab_t0 isL ht0 _ p hp (Nat.le_refl _)
      exact this.2 (by omega)
    have l120 : ∀ p, p < 864 → LF A w tab ch s0 t0 p ≠ 999 → LF A w tab ch s0 t0 p ≤ 120 := fun p hp q => by
      by_cases e : p = s0
      · rw [e, isL.1]; exact ht0
      · exact (isL.2.1 p hp q e).1
    have hpl : plA A w tab ch s0 t0 s = plW (stF A w tab) (whA A) ch (LF A w tab ch s0 t0) s0 (120 + 1) s := rfl
    have hlen : (plW (stF A w tab) (whA A) ch (LF A w tab ch s0 t0) s0 (120 + 1) s).length ≤ 121 := plW_len _ _
    generalize plA A w tab ch s0 t0 s = P at *
    generalize LF A w tab ch s0 t0 = L at *
    have hsL := l120 s hs r3
    have fin : ∀ (acc : List Nat) ν, P = acc ++ [] → acc.length ≤ 120 → ν.1 89 27 = nI acc.length → (∀ j, j < acc.length → ν.1 97 j = nI (acc.getD j 0)) → Fp μ ν → wm_Wp 0 256 96 [.null, .null, .null, .null, .null] ν (fun w ν => ∃ x, w = some (.int x) ∧ Q x ν) := fun acc ν hP hl hn hA hF => by
      rw [List.append_nil] at hP
      refine w_256_96 _ _ ⟨o01, _, rfl, k2 ν hF (by rw [hP]; exact hl) (by rw [hP]; exact hn) (by rw [hP]; exact hA)⟩
    have lp : ∀ k p (acc : List Nat) ν, p < 864 → L p ≤ 120 → L p ≤ t0 + k → P = acc ++ plW (stF A w tab) (whA A) ch L s0 (k + 1) p → acc.length + k ≤ 120 → ν.1 89 27 = nI acc.length → (∀ j, j < acc.length → ν.1 97 j = nI (acc.getD j 0)) → Fp μ ν → wm_Wp 0 256 18 [.ref 89, .int (nI ch), .null, .int (nI p), .null] ν (fun w ν => ∃ x, w = some (.int x) ∧ Q x ν) := by
      intro k
      induction k with
      | zero =>
        intro p acc ν hp hp1 hpt hP hl hn hA hF
        have e := lt0 p hp (by omega)
        subst e
        rw [plW_s0] at hP
        refine w_256_18 _ _ _ _ ?_
        rw [hF.2 25 (by decide), h25]
        exact ⟨fun _ => fin acc ν hP (by omega) hn hA hF, fun q => absurd rfl q⟩
      | succ k ih =>
        intro p acc ν hp hp1 hpt hP hl hn hA hF
        refine w_256_18 _ _ _ _ ?_
        rw [hF.2 25 (by decide), h25]
        refine ⟨fun q => ?_, fun q => ?_⟩
        · have e := (nI_eq (by omega) (by omega)).mp q
          subst e
          rw [plW_s0] at hP
          exact fin acc ν hP (by omega) hn hA hF
        · have e : p ≠ s0 := fun r => q (by rw [r])
          obtain ⟨v1, v2, v3⟩ := prv_ok hc0 isL hp e (by omega)
          have least := (lst_ok (Fr (stF A w tab) (whA A) ch L p) 864).2.2
          have hMν : RM 91 A ν := hM.fr (hF.1 91 (by decide) (by decide))
          have hSν : LSt A w tab h0 10368 ν := fun hr s a b c d => by rw [hF.1 95 (by decide) (by decide)]; exact hS hr s a b c d
          have hLν : LabM L ν := fun s hs => by rw [hF.1 96 (by decide) (by decide)]; exact hL s hs
          have ask : ∀ x, x < 864 → ∀ Q', (Fr (stF A w tab) (whA A) ch L p x → Q' 1 ν) → (¬ Fr (stF A w tab) (whA A) ch L p x → Q' 0 ν) → wm_OkI 0 255 [.ref 89, .int (nI ch), .int (nI x), .int (nI p)] ν Q' := fun x hx8 Q' a b => m_255 w tab ch x p h0 hx8 hp hc0 hch hp1 (fun z => ⟨Nat.le_trans h0t (hq_mono (lab_t0 isL ht0 _ x hx8 (Nat.le_refl _)).1), lab_x isL hx _ x hx8 (Nat.le_refl _) z⟩) hB hMν hSν hLν a b
          have hprv : prv (stF A w tab) (whA A) ch L p = lst (Fr (stF A w tab) (whA A) ch L p) 864 := rfl
          rw [← hprv] at least
          have in1 : prv (stF A w tab) (whA A) ch L p / 24 = p / 24 → plW (stF A w tab) (whA A) ch L s0 (k + 1 + 1) p = plW (stF A w tab) (whA A) ch L s0 (k + 1) (prv (stF A w tab) (whA A) ch L p) := fun z => plW_in e z
          have in2 : ¬ prv (stF A w tab) (whA A) ch L p / 24 = p / 24 → plW (stF A w tab) (whA A) ch L s0 (k + 1 + 1) p = (10 * (p / 3 % 8) + p % 3) :: plW (stF A w tab) (whA A) ch L s0 (k + 1) (prv (stF A w tab) (whA A) ch L p) := fun z => plW_out e z
          clear hprv
          generalize prv (stF A w tab) (whA A) ch L p = r at *
          have found : wm_Wp 0 256 46 [.ref 89, .int (nI ch), .null, .int (nI p), .int (nI r)] ν (fun w ν => ∃ x, w = some (.int x) ∧ Q x ν) := by
            have n24 : ¬ (24 : Int32) = 0 := by decide
            have n3 : ¬ (3 : Int32) = 0 := by decide
            have n8 : ¬ (8 : Int32) = 0 := by decide
            refine w_256_46 _ _ _ _ _ ⟨n24, n24, ?_⟩
            rw [show nI r / (24 : Int32) = nI (r / 24) from pk_div (d := 24) (by omega) (by decide) (by decide), show nI p / (24 : Int32) = nI (p / 24) from pk_div (d := 24) (by omega) (by decide) (by decide), show nI p - nI p / (3 : Int32) * (3 : Int32) = nI (p % 3) from pk_rem (d := 3) (by omega) (by decide) (by decide), show nI p / (3 : Int32) = nI (p / 3) from pk_div (d := 3) (by omega) (by decide) (by decide), show nI (p / 3) - nI (p / 3) / (8 : Int32) * (8 : Int32) = nI (p / 3 % 8) from pk_rem (d := 8) (by omega) (by decide) (by decide), show (10 : Int32) * nI (p / 3 % 8) + nI (p % 3) = nI (10 * (p / 3 % 8) + p % 3) by simp (disch := omega) only [nl, nI_add, pk_mul, pk_sub, pk_div, rm_n, nI_clamp, vi_, nI_leI, nI_ltI, nI_eq, nI_sb, nI_eqm, nI_meq, Nat.zero_add, Nat.add_zero], si_ne _ _ _ (show 89 ≠ 97 by decide), hn, nI_clamp (show acc.length < 2 ^ 31 by omega), nI_1]
            refine ⟨fun z => w_256_90 _ _ _ _ ?_, fun z => ⟨n3, n8, n3, vp_in_nI (by omega) (by decide), w_256_90 _ _ _ _ ?_⟩⟩
            · have z := (nI_eq (by omega) (by omega)).mp z
              exact ih r acc ν v1 (by omega) (by omega) (by rw [hP, in1 z]) (by omega) hn hA hF
            · have z : ¬ r / 24 = p / 24 := fun y => z (by rw [y])
              refine ih r (acc ++ [10 * (p / 3 % 8) + p % 3]) _ v1 (by omega) (by omega) ?_ (by simp; omega) (by rw [si_same]; simp) (fun j hj => ?_) ⟨fun d a b => by rw [si_ne _ _ _ b, si_ne _ _ _ a]; exact hF.1 d a b, fun i y => by rw [si_other _ _ y, si_ne _ _ _ (by decide)]; exact hF.2 i y⟩
              · rw [hP, in2 z]; simp
              · rw [List.length_append, List.length_singleton] at hj
                rw [si_ne _ _ _ (show 97 ≠ 89 by decide)]
                by_cases y : j = acc.length
                · subst y
                  rw [si_same, getD_end]
                · rw [si_other _ _ y, getD_app (by omega)]
                  exact hA j (by omega)
          have search : ∀ j x, x + j = r → wm_Wp 0 256 29 [.ref 89, .int (nI ch), .null, .int (nI p), .int (nI x)] ν (fun w ν => ∃ x, w = some (.int x) ∧ Q x ν) := by
            intro j
            induction j with
            | zero =>
              intro x hj
              have : x = r := by omega
              subst this
              exact w_256_29 _ _ _ _ _ (ask x v1 _ (fun _ => ⟨fun z => absurd z (by decide), fun _ => found⟩) (fun z => absurd v2 z))
            | succ j ihj =>
              intro x hj
              refine w_256_29 _ _ _ _ _ (ask x (by omega) _ (fun z => absurd z (least x (by omega))) (fun _ => ⟨fun _ => ?_, fun z => absurd rfl z⟩))
              rw [nI_1]
              exact ihj (x + 1) (by omega)
          exact search r 0 (by omega)
    exact lp 120 s [] _ hs hsL (by omega) hpl (Nat.le_refl _) (si_same _ _ _ _) (fun j hj => by cases hj) ⟨fun d _ b => si_ne _ _ _ b, fun i q => si_other _ _ q⟩
theorem nI_m1 {x : Int32} (h : (-1 : Int32) ≤ x) (h1 : ¬ x = -1) : ∃ j : Nat, j < 2 ^ 31 ∧ x = nI j := by
  refine nI_of (fun q => h1 ?_)
  have a := Int32.le_iff_toInt_le.mp h
  have b := Int32.lt_iff_toInt_lt.mp q
  have e1 : (-1 : Int32).toInt = -1 := by decide +kernel
  have e0 : (0 : Int32).toInt = 0 := by decide +kernel
  refine Int32.toInt_inj.mp ?_
  omega
theorem p_plan (a b c : Int32) {n : Nat} (hn : n < 8000) {μ : wm_M} (h : Rel n μ) : wm_OkI 0 135 [.ref 0, .int a, .int b, .int c] μ (Pr n 261 [.ref 89, .int a, .int b, .int c]) := by
  have h' := h
  obtain ⟨A, hA, hO⟩ := h
  have hM := hA.2.2.1
  have hV := hA.2.2.2.1.2.2.rv
  have bt := hA.1.tick
  have ch := chA_le hA.1
  have hMr : ∀ k, RM 91 A (wm_si μ 88 k (μ.1 88 k + 1)) := fun k => hM.fr rfl
  have e6 : ∀ {ν : wm_M}, RM 91 A ν → ν.1 91 (2040 + 6) = nI (A 2046) := fun h => h 2046 (by decide)
  refine v_135 _ _ _ _ _ ?_
  rw [hA.2.2.2.1.1.put]
  refine ⟨fun z => s_161 2 (by decide) ⟨_, rfl, v_261 _ _ _ _ _ (s_188 6 (by decide) ⟨fun _ => s_185 2 (by decide) ⟨_, rfl, rfl, (h'.rf 2).up⟩, fun q => absurd ((e6 (hMr 2)).trans z) q⟩)⟩, fun z => w_135_20 _ _ _ _ _ ?_⟩
  have ref3 : ¬ (ir 6 a ∧ ir 35 b) → wm_Wp 0 135 34 [.ref 0, .null, .null, .null, .null] μ (fun v ν => ∃ x, v = some (.int x) ∧ Pr n 261 [.ref 89, .int a, .int b, .int c] x ν) := fun q => by
    refine w_135_34 _ _ (s_161 3 (by decide) ⟨_, rfl, v_261 _ _ _ _ _ (s_188 6 (by decide) ⟨fun q => absurd ((e6 (hMr 3)).symm.trans q) z, fun _ => w_261_16 _ _ _ _ _ (v_259 _ _ _ (s_184 ⟨bI_01, _, rfl, fun _ => w_261_30 _ _ (s_185 3 (by decide) ⟨_, rfl, rfl, (h'.rf 3).up⟩), fun y => s_189 ⟨fun _ => w_261_30 _ _ (s_185 3 (by decide) ⟨_, rfl, rfl, (h'.rf 3).up⟩), fun x => absurd ⟨nz y, nz x⟩ q⟩⟩))⟩)⟩)
  refine s_169 ⟨fun q => ref3 (fun r => bI_0.mp q r.1), fun q => s_167 ⟨fun r => ref3 (fun r' => bI_0.mp r r'.2), fun r => w_135_41 _ _ _ _ _ ⟨fun y => w_135_53 _ _ _ _ _ ?_, fun y => ?_⟩⟩⟩
  · obtain ⟨w, hw, rfl⟩ := in_nI 6 (by decide) (nz q)
    obtain ⟨cc, hcc, rfl⟩ := in_nI 35 (by decide) (nz r)
    have hp : A 2046 = 1 := put_01 hA.1 (fun q => z (by rw [q]; rfl))
    have hx := bst_x hA.1 hA.2.1 hp
    have hs0 := bst_lt hA.1
    refine c_adc (Q := fun r4 t r6 μ5 => wm_OkI 0 112 [.ref 69, .int r4, .int t, .int r6, .int (nI cc)] μ5 (fun r8 μ7 => ((c = (-1 : Int32) → ∃ x, some (Value.int r8) = some (.int x) ∧ Pr n 261 [.ref 89, .int (nI w), .int (nI cc), .int c] x μ7) ∧ (¬ c = (-1 : Int32) → wm_Wp 0 135 114 [.ref 0, .null, .null, .int c, .int r8] μ7 (fun v ν => ∃ x, v = some (.int x) ∧ Pr n 261 [.ref 89, .int (nI w), .int (nI cc), .int c] x ν))))) w 1 (by omega) (by decide) hA hO (fun ν hAν hOν hC => ?_)
    -- the reference's side
    have key : ∀ κ, F7 ν κ → ∀ Q' : Int32 → wm_M → Prop, (∀ ξ, Rel (n + 1) ξ → wyA A w 1 (chA A) (bstA A) (A 2050) cc = none → Q' (-1) ξ) → (∀ ξ s T, Rel (n + 1) ξ → wyA A w 1 (chA A) (bstA A) (A 2050) cc = some (s, T) → (plA A w 1 (chA A) (bstA A) (A 2050) s).length ≤ 120 → ξ.1 89 27 = nI (plA A w 1 (chA A) (bstA A) (A 2050) s).length → (∀ j, j < (plA A w 1 (chA A) (bstA A) (A 2050) s).length → ξ.1 97 j = nI ((plA A w 1 (chA A) (bstA A) (A 2050) s).getD j 0)) → wm_Wp 0 261 69 [.ref 89, .null, .null, .int c] ξ (fun v ν => ∃ x, v = some (.int x) ∧ Q' x ν)) → wm_OkI 0 261 [.ref 89, .int (nI w), .int (nI cc), .int c] κ Q' := fun κ k Q' k0 k1 => by
      have hAκ := hAν.f7 k
      have hRκ : Rel n κ := ⟨A, hAκ, hOν.f7 k⟩
      refine v_261 _ _ _ _ _ (s_188 6 (by decide) ⟨fun q => absurd ((e6 hAκ.2.2.1).symm.trans q) (by rw [hp]; decide), fun _ => w_261_16 _ _ _ _ _ (v_259 _ _ _ (s_184 ⟨bI_01, _, rfl, fun q => absurd ⟨nI_le (a := 0) (by omega) (by omega), nI_le (b := 6) (by omega) (by decide)⟩ (bI_0.mp q), fun _ => s_189 ⟨fun q => absurd ⟨nI_le (a := 0) (by omega) (by omega), nI_le (b := 35) (by omega) (by decide)⟩ (bI_0.mp q), fun _ => w_261_37 _ _ _ _ _ ⟨fun _ => w_261_49 _ _ _ _ _ ?_, fun q => absurd y q⟩⟩⟩))⟩)
      refine m_258 w 1 (by omega) (by decide) hA.1 hA.2.1 hV (by omega) hp hAκ.2.2.1 (fun ξ ℓ l1 l2 l3 l4 hS => ?_)
      have hMξ : RM 91 A ξ := fun j hj => (hS 91 j rfl).trans (hAκ.2.2.1 j hj)
      refine m_222 hA.1 hA.2.1 hV hMξ (by omega) (fun η hW => ?_)
      have hMη : RM 91 A η := fun j hj => (hW 91 j rfl).trans (hMξ j hj)
      have hRη : Rel n η := hRκ.sm ((hS.le (fun _ _ q => kR_S q)).tr (hW.le (fun _ _ q => kR_W q)))
      have hLη : LabM (LF A w 1 (chA A) (bstA A) (A 2050)) η := LabM_LF (fun s hs => by rw [hW 96 s rfl]; exact l1 s hs) l2 (by omega)
      refine m_256 w 1 (chA A) (bstA A) (A 2050) cc (hq (A 2050)) hs0 (by omega) (by omega) (by omega) hx (by omega) (Nat.le_refl _) hA.1 hMη (fun hr s a b d e => (hW 95 _ rfl).trans (l3 hr s a b d e)) hLη ((hW 89 25 rfl).trans l4) (fun ρ f g => ⟨fun _ => ⟨_, rfl, k0 ρ (hRη.sm (f.sm.le (fun _ _ q => kR_S q))).up g⟩, fun q => absurd rfl q⟩) (fun ρ s T f g1 g2 g3 g4 => ⟨fun q => absurd q (by decide), fun _ => k1 ρ s T (hRη.sm (f.sm.le (fun _ _ q => kR_S q))).up g1 g2 g3 g4⟩)
    refine c_112 w 1 (chA A) (bstA A) (A 2050) cc (by omega) hs0 (by omega) (by omega) (by omega) hx (by omega) hC (fun κ k1 k2 => ?_) (fun κ s T k1 k2 k3 k4 => ?_)
    · have res : Pr n 261 [.ref 89, .int (nI w), .int (nI cc), .int c] (-1) κ := key κ k1 _ (fun ξ hR _ => ⟨rfl, hR⟩) (fun ξ s T _ g => by rw [k2] at g; cases g)
      exact ⟨fun _ => ⟨_, rfl, res⟩, fun _ => w_135_114 _ _ _ _ ⟨fun _ => w_135_132 _ _ ⟨_, rfl, res⟩, fun q => absurd y q⟩⟩
    · generalize hP : plA A w 1 (chA A) (bstA A) (A 2050) s = P at *
      have res : ∀ x, (∀ ξ, Rel (n + 1) ξ → ξ.1 89 27 = nI P.length → (∀ j, j < P.length → ξ.1 97 j = nI (P.getD j 0)) → wm_Wp 0 261 69 [.ref 89, .null, .null, .int c] ξ (fun v ν => ∃ z, v = some (.int z) ∧ x = z ∧ Rel (n + 1) ν)) → Pr n 261 [.ref 89, .int (nI w), .int (nI cc), .int c] x κ := fun x hk => key κ k1 _ (fun ξ _ g => by rw [k2] at g; cases g) (fun ξ s' T' hR g1 g2 g3 g4 => by
        rw [k2] at g1
        injection g1 with g1
        injection g1 with e1 e2
        subst e1
        rw [hP] at g2 g3 g4
        exact hk ξ hR g3 g4)
      refine ⟨fun e => ⟨_, rfl, res _ (fun ξ hR g3 g4 => w_261_69 _ _ _ ⟨fun _ => ⟨_, rfl, g3.symm, hR⟩, fun q => absurd e q⟩)⟩, fun e => ?_⟩
      obtain ⟨j, hj, rfl⟩ := nI_m1 y e
      refine w_135_114 _ _ _ _ ⟨fun v => w_135_132 _ _ ⟨_, rfl, res _ (fun ξ hR g3 g4 => w_261_69 _ _ _ ⟨fun q => absurd q e, fun _ => w_261_81 _ _ _ ?_⟩)⟩, fun v => ?_⟩
      · rw [g3]
        exact ⟨fun _ => w_261_105 _ _ ⟨_, rfl, rfl, hR⟩, fun q => absurd v q⟩
      · have lt : j < P.length := Nat.lt_of_not_le (fun r => v ((nI_leI (by omega) (by omega)).mpr r))
        refine ⟨vp_in_nI (by omega) (by decide), _, rfl, res _ (fun ξ hR g3 g4 => w_261_69 _ _ _ ⟨fun q => absurd q e, fun _ => w_261_81 _ _ _ ?_⟩)⟩
        rw [g3, show nI P.length - (1 : Int32) = nI (P.length - 1) from pk_sub (b := 1) (by omega), pk_sub (by omega)]
        refine ⟨fun q => absurd q v, fun _ => ⟨vp_in_nI (by omega) (by decide), _, rfl, ?_, hR⟩⟩
        rw [nI_clamp (show j < 2 ^ 31 by omega), k4 j lt, nI_clamp (show P.length - 1 - j < 2 ^ 31 by omega), g4 _ (by omega)]
  · refine s_161 7 (by decide) ⟨_, rfl, v_261 _ _ _ _ _ (s_188 6 (by decide) ⟨fun q => absurd ((e6 (hMr 7)).symm.trans q) z, fun _ => w_261_16 _ _ _ _ _ (v_259 _ _ _ (s_184 ⟨bI_01, _, rfl, fun x => absurd (nz q) (bI_0.mp x), fun _ => s_189 ⟨fun x => absurd (nz r) (bI_0.mp x), fun _ => w_261_37 _ _ _ _ _ ⟨fun x => absurd x y, fun _ => s_185 7 (by decide) ⟨_, rfl, rfl, (h'.rf 7).up⟩⟩⟩⟩))⟩)⟩
