/-! ===== the reference: worksOut ===== -/
theorem m_254w {A : Nat → Nat} {w tab ch s0 t0 : Nat} (c : Nat) (hc : c < 36) {μ : wm_M} {Q : Int32 → wm_M → Prop} (hL : LabM (LF A w tab ch s0 t0) μ) (h0 : wyA A w tab ch s0 t0 c = none → Q (-1) μ) (h1 : ∀ s T, wyA A w tab ch s0 t0 c = some (s, T) → s < 864 → μ.1 96 s = nI T → Q (nI s) μ) : wm_OkI 0 254 [.ref 89, .int (nI c)] μ Q := by
  refine m_254 c hc hL ?_
  rw [eo_wy] at h0 h1
  cases ho : eo (LF A w tab ch s0 t0) c 24 with
  | none => exact h0 (by rw [ho]; rfl)
  | some s =>
    obtain ⟨r1, r2, r3⟩ := eo_in 24 ho
    obtain ⟨p1, p2⟩ := hL s (by omega)
    rw [if_neg r3] at p2
    exact h1 s _ (by rw [ho]; rfl) (by omega) p2
def FwO (μ ν : wm_M) : Prop := (∀ d, d ≠ 89 → (d < 95 ∨ 103 < d ∨ d = 97) → ν.1 d = μ.1 d) ∧ ∀ i, i ≠ 25 → ν.1 89 i = μ.1 89 i
theorem FwO.rf (μ : wm_M) : FwO μ μ := ⟨fun _ _ _ => rfl, fun _ _ => rfl⟩
theorem FwO.tr {μ ν κ : wm_M} (h : FwO μ ν) (g : FwO ν κ) : FwO μ κ := ⟨fun d a b => (g.1 d a b).trans (h.1 d a b), fun i a => (g.2 i a).trans (h.2 i a)⟩
theorem FwO.si {μ ν : wm_M} (h : FwO μ ν) {c k : Nat} {x : Int32} (hc : 95 ≤ c ∧ c ≤ 103 ∧ c ≠ 97) : FwO μ (wm_si ν c k x) := ⟨fun d a b => by rw [si_ne _ _ _ (by omega)]; exact h.1 d a b, fun i a => by rw [si_ne _ _ _ (by omega)]; exact h.2 i a⟩
theorem FwO.sm {μ ν : wm_M} (h : FwO μ ν) : Sm kS μ ν := fun c i q => by
  by_cases e : c = 89
  · subst e
    refine h.2 i (fun r => ?_)
    subst r
    exact absurd q (by decide)
  · refine congrFun (h.1 c e (Decidable.byContradiction (fun r => ?_))) i
    unfold kS at q
    simp only [Bool.and_eq_true, Bool.not_eq_true', Bool.and_eq_false_iff, Nat.ble_eq, Bool.eq_false_iff, ne_eq, Nat.beq_eq] at q
    omega
/-- the reference's labels in a memory whose steps are laid -/
theorem m_252w {m : Nat} {A : Nat → Nat} (w ch s0 t0 h0 : Nat) (hs0 : s0 < 864) (ht0 : t0 ≤ 120) (hc0 : 0 < ch) (hch : ch < 10000) (hx : s0 % 3 < A 2040) (h0t : h0 ≤ hq t0) {μ : wm_M} {Q : wm_M → Prop} (hB : BA m A) (hM : RM 91 A μ) (hS : LSt A w 1 h0 10368 μ) (hk : ∀ ν, LabM (LF A w 1 ch s0 t0) ν → FwO μ ν → (∀ d, d ≠ 96 → d ≠ 89 → ν.1 d = μ.1 d) → Q ν) : wm_OkV 0 252 [.ref 89, .int (nI ch), .int (nI s0), .int (nI t0)] μ Q := by
  refine m_252 w 1 ch s0 t0 hs0 ht0 hc0 hch hx hB h0 h0t hM hS (fun ν ℓ k1 k2 k3 k4 k5 => hk ν (LabM_LF k1 k2 ht0) ⟨fun d a b => k5 d (by omega) a, k4⟩ k5)
noncomputable def otI (o : Option (Nat × Nat)) (f : Nat × Nat → Nat) (z : Int32) : Int32 := match o with
  | none => z
  | some r => nI (f r)
theorem m_267 {m : Nat} {A : Nat → Nat} (w ch : Nat) (hw : w < 6) (hc0 : 0 < ch) (hch : ch < 10000) {μ : wm_M} {Q : wm_M → Prop} (hB : BA m A) (hX : VX A) (hp : A 2046 = 1) (hM : RM 91 A μ) (hLR : LR A (hq (A 2050)) 1296 μ) (hk : ∀ ν, ν.1 99 w = nI (sooA A w ch) → (∀ c q, c < 3 → q < 3 → ν.1 98 (9 * w + 3 * c + q) = nI (cmA A w ch c q)) → (∀ j, j ≠ w → ν.1 99 j = μ.1 99 j) → (∀ j, ¬ (9 * w ≤ j ∧ j < 9 * w + 9) → ν.1 98 j = μ.1 98 j) → FwO μ ν → Q ν) : wm_OkV 0 267 [.ref 89, .int (nI w), .int (nI ch)] μ Q := by
  have bt := hB.tick
  have bf := hB.first
  have bs := hB.second
  have bm := hB.mark
  have hx := bst_x hB hX hp
  have hs0 := bst_lt hB
  have e10 : ∀ {ν : wm_M}, RM 91 A ν → ν.1 91 (2040 + 10) = nI (A 2050) := fun h => h 2050 (by decide)
  have e5 : ∀ {ν : wm_M}, RM 91 A ν → ν.1 91 (2040 + 5) = nI (A 2045) := fun h => h 2045 (by decide)
  have e3 : ∀ {ν : wm_M}, RM 91 A ν → ν.1 91 (2040 + 3) = nI (A 2043) := fun h => h 2043 (by decide)
  have e4 : ∀ {ν : wm_M}, RM 91 A ν → ν.1 91 (2040 + 4) = nI (A 2044) := fun h => h 2044 (by decide)
  have fM : ∀ {ν κ : wm_M}, RM 91 A ν → FwO ν κ → RM 91 A κ := fun h f => h.fr (f.1 91 (by decide) (by decide))
  have vw : vp_in (nI w) 6 := vp_in_nI hw (by decide)
  have cw : (nI w).toNatClampNeg = w := nI_clamp (by omega)
  have N1 : ∀ (s T : Nat), s < 864 → T ≤ 120 → s % 3 < A 2040 → (∀ q, q < 3 → A (2001 + q) < 36) := fun _ _ _ _ _ q hq => hB.choice hq
  -- all done for c: what 98 holds
  have C : ∀ c q, cmA A w ch c q = (match wyA A w 1 ch (bstA A) (A 2050) (A (2001 + c)) with | none => 999 | some r => cm2A A w ch r.1 r.2 q) := fun c q => rfl
  have C2 : ∀ s t q, cm2A A w ch s t q = (match wyA A w 1 ch s (max t (A 2043)) (A (2001 + q)) with | none => 999 | some r => (match wyA A w 1 ch r.1 (max r.2 (A 2044)) (A 2045) with | none => 999 | some r => r.2)) := fun s t q => rfl
  have pl : ∀ c q : Nat, (((9 : Int32) * nI w) + ((3 : Int32) * nI c)) + nI q = nI (9 * w + 3 * c + q) := fun c q => by simp (disch := omega) only [nl, nI_add, pk_mul, pk_sub, pk_div, rm_n, nI_clamp, vi_, nI_leI, nI_ltI, nI_eq, nI_sb, nI_eqm, nI_meq, Nat.zero_add, Nat.add_zero]
  -- the loop over c
  have outer : ∀ j c ν, c + j = 3 → FwO μ ν → LSt A w 1 (hq (A 2050)) 10368 ν → ν.1 99 w = nI (sooA A w ch) → (∀ i, i ≠ w → ν.1 99 i = μ.1 99 i) → (∀ c', c' < 3 → ν.1 100 c' = otI (wyA A w 1 ch (bstA A) (A 2050) (A (2001 + c'))) (fun r => r.1) (-1) ∧ ν.1 101 c' = otI (wyA A w 1 ch (bstA A) (A 2050) (A (2001 + c'))) (fun r => r.2) 0) → (∀ c' q, c' < c → q < 3 → ν.1 98 (9 * w + 3 * c' + q) = nI (cmA A w ch c' q)) → (∀ i, ¬ (9 * w ≤ i ∧ i < 9 * w + 9) → ν.1 98 i = μ.1 98 i) → wm_Wp 0 267 134 [.ref 89, .int (nI w), .int (nI ch), .null, .int (nI c), .null, .null] ν (fun w ν => w = none ∧ Q ν) := by
    intro j
    induction j with
    | zero =>
      intro c ν hj hF hS h99 h99' h100 h98 h98'
      have : c = 3 := by omega
      subst this
      exact w_267_134 _ _ _ _ _ ⟨fun _ => w_267_426 _ _ ⟨rfl, hk ν h99 h98 h99' h98' hF⟩, fun q => absurd (nI_le (Nat.le_refl 3) (by decide)) q⟩
    | succ j ih =>
      intro c ν hj hF hS h99 h99' h100 h98 h98'
      have hc3 : c < 3 := by omega
      have bc := hB.choice hc3
      have vc : vp_in (nI c) 3 := vp_in_nI hc3 (by decide)
      have cc : (nI c).toNatClampNeg = c := nI_clamp (by omega)
      -- next c
      have next : ∀ κ, FwO μ κ → LSt A w 1 (hq (A 2050)) 10368 κ → κ.1 99 = ν.1 99 → κ.1 100 = ν.1 100 → κ.1 101 = ν.1 101 → (∀ q, q < 3 → κ.1 98 (9 * w + 3 * c + q) = nI (cmA A w ch c q)) → (∀ i, ¬ (9 * w + 3 * c ≤ i ∧ i < 9 * w + 3 * c + 3) → κ.1 98 i = ν.1 98 i) → wm_Wp 0 267 420 [.ref 89, .int (nI w), .int (nI ch), .null, .int (nI c), .null, .null] κ (fun w ν => w = none ∧ Q ν) := fun κ g1 g2 g3 g4 g5 g6 g7 => by
        refine w_267_420 _ _ _ _ _ ?_
        rw [nI_1]
        refine ih (c + 1) κ (by omega) g1 g2 (by rw [g3]; exact h99) (fun i hi => by rw [g3]; exact h99' i hi) (fun c' hc' => by rw [g4, g5]; exact h100 c' hc') (fun c' q a b => ?_) (fun i hi => by rw [g7 i (by omega)]; exact h98' i hi)
        by_cases e : c' = c
        · subst e; exact g6 q b
        · rw [g7 _ (by omega)]; exact h98 c' q (by omega) b
      -- first all 999
      have fill : ∀ j q κ, q + j = 3 → (∀ q', q' < q → κ.1 98 (9 * w + 3 * c + q') = nI 999) → (∀ i, ¬ (9 * w + 3 * c ≤ i ∧ i < 9 * w + 3 * c + 3) → κ.1 98 i = ν.1 98 i) → (∀ d, d ≠ 98 → κ.1 d = ν.1 d) → (∀ ξ, (∀ q', q' < 3 → ξ.1 98 (9 * w + 3 * c + q') = nI 999) → (∀ i, ¬ (9 * w + 3 * c ≤ i ∧ i < 9 * w + 3 * c + 3) → ξ.1 98 i = ν.1 98 i) → (∀ d, d ≠ 98 → ξ.1 d = ν.1 d) → wm_Wp 0 267 175 [.ref 89, .int (nI w), .int (nI ch), .null, .int (nI c), .null, .null] ξ (fun w ν => w = none ∧ Q ν)) → wm_Wp 0 267 143 [.ref 89, .int (nI w), .int (nI ch), .null, .int (nI c), .int (nI q), .null] κ (fun w ν => w = none ∧ Q ν) := by
        intro j
        induction j with
        | zero =>
          intro q κ hj g1 g2 g3 w'
          have : q = 3 := by omega
          subst this
          exact w_267_143 _ _ _ _ _ _ ⟨fun _ => w' κ g1 g2 g3, fun q => absurd (nI_le (Nat.le_refl 3) (by decide)) q⟩
        | succ j ihj =>
          intro q κ hj g1 g2 g3 w'
          refine w_267_143 _ _ _ _ _ _ ⟨fun z => absurd z (nI_ge (a := q) (b := 3) (by omega) (by decide)), fun _ => ?_⟩
          rw [pl, nI_clamp (show 9 * w + 3 * c + q < 2 ^ 31 by omega), nI_1]
          refine ⟨vp_in_nI (by omega) (by decide), ihj (q + 1) _ (by omega) (fun q' hq' => ?_) (fun i hi => by rw [si_other _ _ (by omega)]; exact g2 i hi) (fun d hd => by rw [si_ne _ _ _ hd]; exact g3 d hd) w'⟩
          by_cases e : q' = q
          · subst e; rw [si_same]; rfl
          · rw [si_other _ _ (by omega)]; exact g1 q' (by omega)
      refine w_267_134 _ _ _ _ _ ⟨fun q => absurd q (nI_ge (a := c) (b := 3) (by omega) (by decide)), fun _ => fill 3 0 ν rfl (fun q' h => by omega) (fun _ _ => rfl) (fun _ _ => rfl) (fun ξ x1 x2 x3 => ?_)⟩
      have hFξ : FwO μ ξ := hF.tr ⟨fun d a b => x3 d (by omega), fun i _ => by rw [x3 89 (by decide)]⟩
      have hSξ : LSt A w 1 (hq (A 2050)) 10368 ξ := fun hr s a b d e => by rw [x3 95 (by decide)]; exact hS hr s a b d e
      have hMξ := fM hM hFξ
      obtain ⟨y0, y1⟩ := h100 c hc3
      refine w_267_175 _ _ _ _ _ ⟨vc, ?_⟩
      rw [cc, x3 100 (by decide), y0]
      cases hwy : wyA A w 1 ch (bstA A) (A 2050) (A (2001 + c)) with
      | none =>
        refine ⟨fun _ => next ξ hFξ hSξ (x3 99 (by decide)) (x3 100 (by decide)) (x3 101 (by decide)) (fun q hq => ?_) x2, fun z => absurd rfl z⟩
        rw [x1 q hq, C, hwy]
      | some r =>
        obtain ⟨s, T⟩ := r
        obtain ⟨o1, o2, o3, o4, o5, o6⟩ := wy_ok hc0 hs0 (by omega) hx bc hwy
        rw [hwy] at y0 y1
        have y0 : ν.1 100 c = nI s := y0
        have y1 : ν.1 101 c = nI T := y1
        have hC : ∀ q, cmA A w ch c q = cm2A A w ch s T q := fun q => by rw [C, hwy]
        have m1 : max T (A 2043) ≤ 120 := by omega
        have tm : A 2050 ≤ max T (A 2043) := by omega
        refine ⟨fun z => absurd z (nI_n1 o1), fun _ => ?_⟩
        -- behind the second search
        have third : ∀ κ, FwO μ κ → LabM (LF A w 1 ch s (max T (A 2043))) κ → (∀ d, d ≠ 96 → d ≠ 89 → κ.1 d = ξ.1 d) → wm_Wp 0 267 234 [.ref 89, .int (nI w), .int (nI ch), .null, .int (nI c), .int 0, .null] κ (fun w ν => w = none ∧ Q ν) := fun κ gF gL gd => by
          have last : ∀ j q ρ, q + j = 3 → FwO μ ρ → LSt A w 1 (hq (A 2050)) 10368 ρ → ρ.1 99 = ν.1 99 → ρ.1 100 = ν.1 100 → ρ.1 101 = ν.1 101 → (∀ q', q' < 3 → ρ.1 102 q' = otI (wyA A w 1 ch s (max T (A 2043)) (A (2001 + q'))) (fun r => r.1) (-1) ∧ ρ.1 103 q' = otI (wyA A w 1 ch s (max T (A 2043)) (A (2001 + q'))) (fun r => r.2) 0) → (∀ q', q' < q → ρ.1 98 (9 * w + 3 * c + q') = nI (cm2A A w ch s T q')) → (∀ q', q ≤ q' → q' < 3 → ρ.1 98 (9 * w + 3 * c + q') = nI 999) → (∀ i, ¬ (9 * w + 3 * c ≤ i ∧ i < 9 * w + 3 * c + 3) → ρ.1 98 i = ν.1 98 i) → wm_Wp 0 267 305 [.ref 89, .int (nI w), .int (nI ch), .null, .int (nI c), .int (nI q), .null] ρ (fun w ν => w = none ∧ Q ν) := by
            intro j
            induction j with
            | zero =>
              intro q ρ hj z1 z2 z3 z4 z5 z6 z7 z8 z9
              have : q = 3 := by omega
              subst this
              exact w_267_305 _ _ _ _ _ _ ⟨fun _ => next ρ z1 z2 z3 z4 z5 (fun q hq => by rw [hC]; exact z7 q hq) z9, fun z => absurd (nI_le (Nat.le_refl 3) (by decide)) z⟩
            | succ j ihq =>
              intro q ρ hj z1 z2 z3 z4 z5 z6 z7 z8 z9
              have hq3 : q < 3 := by omega
              have bq := hB.choice hq3
              have vq : vp_in (nI q) 3 := vp_in_nI hq3 (by decide)
              have cq : (nI q).toNatClampNeg = q := nI_clamp (by omega)
              obtain ⟨u0, u1⟩ := z6 q hq3
              have nx : ∀ η, FwO μ η → LSt A w 1 (hq (A 2050)) 10368 η → η.1 99 = ρ.1 99 → η.1 100 = ρ.1 100 → η.1 101 = ρ.1 101 → η.1 102 = ρ.1 102 → η.1 103 = ρ.1 103 → η.1 98 (9 * w + 3 * c + q) = nI (cm2A A w ch s T q) → (∀ i, i ≠ 9 * w + 3 * c + q → η.1 98 i = ρ.1 98 i) → wm_Wp 0 267 414 [.ref 89, .int (nI w), .int (nI ch), .null, .int (nI c), .int (nI q), .null] η (fun w ν => w = none ∧ Q ν) := fun η a1 a2 a3 a4 a5 a6 a7 a8 a9 => by
                refine w_267_414 _ _ _ _ _ _ ?_
                rw [nI_1]
                refine ihq (q + 1) η (by omega) a1 a2 (a3.trans z3) (a4.trans z4) (a5.trans z5) (fun q' hq' => by rw [a6, a7]; exact z6 q' hq') (fun q' hq' => ?_) (fun q' h1 h2 => by rw [a9 _ (by omega)]; exact z8 q' (by omega) h2) (fun i hi => by rw [a9 i (by omega)]; exact z9 i hi)
                by_cases e : q' = q
                · subst e; exact a8
                · rw [a9 _ (by omega)]; exact z7 q' (by omega)
              refine w_267_305 _ _ _ _ _ _ ⟨fun z => absurd z (nI_ge (a := q) (b := 3) (by omega) (by decide)), fun _ => ⟨vq, ?_⟩⟩
              rw [cq, u0]
              cases hwq : wyA A w 1 ch s (max T (A 2043)) (A (2001 + q)) with
              | none =>
                refine ⟨fun _ => nx ρ z1 z2 rfl rfl rfl rfl rfl ?_ (fun _ _ => rfl), fun z => absurd rfl z⟩
                rw [z8 q (Nat.le_refl _) hq3, C2, hwq]
              | some r =>
                obtain ⟨s2, T2⟩ := r
                obtain ⟨p1, p2, p3, p4, p5, p6⟩ := wy_ok hc0 o1 m1 o6 bq hwq
                rw [hwq] at u0 u1
                have u0 : ρ.1 102 q = nI s2 := u0
                have u1 : ρ.1 103 q = nI T2 := u1
                have m2 : max T2 (A 2044) ≤ 120 := by omega
                have tm2 : A 2050 ≤ max T2 (A 2044) := by omega
                have hMρ := fM hM z1
                have hC2 : cm2A A w ch s T q = (match wyA A w 1 ch s2 (max T2 (A 2044)) (A 2045) with | none => 999 | some r => r.2) := by rw [C2, hwq]
                -- the last search
                have ends : ∀ η, FwO ρ η → LabM (LF A w 1 ch s2 (max T2 (A 2044))) η → (∀ d, d ≠ 96 → d ≠ 89 → η.1 d = ρ.1 d) → ∀ Q' : Int32 → wm_M → Prop, (∀ x (κ : wm_M), (x = -1 ∧ wyA A w 1 ch s2 (max T2 (A 2044)) (A 2045) = none ∨ (∃ e, x = nI e ∧ e < 864 ∧ ∃ t, wyA A w 1 ch s2 (max T2 (A 2044)) (A 2045) = some (e, t) ∧ κ.1 96 e = nI t)) → κ = η → Q' x κ) → wm_OkI 0 188 [.ref 89, .int (5 : Int32)] η (fun r7 μ6 => wm_OkI 0 254 [.ref 89, .int r7] μ6 Q') := fun η a1 a2 a3 Q' a4 => by
                  refine s_188 5 (by decide) ?_
                  rw [e5 (fM hMρ a1)]
                  exact m_254w (A 2045) bm a2 (fun z => a4 _ _ (Or.inl ⟨rfl, z⟩) rfl) (fun e t z1 z2 z3 => a4 _ _ (Or.inr ⟨e, rfl, z2, t, z1, z3⟩) rfl)
                have done : ∀ η x, FwO ρ η → (∀ d, d ≠ 96 → d ≠ 89 → η.1 d = ρ.1 d) → (x = -1 ∧ wyA A w 1 ch s2 (max T2 (A 2044)) (A 2045) = none ∨ (∃ e, x = nI e ∧ e < 864 ∧ ∃ t, wyA A w 1 ch s2 (max T2 (A 2044)) (A 2045) = some (e, t) ∧ η.1 96 e = nI t)) → ((x = (-1 : Int32) → (vp_in ((((9 : Int32) * nI w) + ((3 : Int32) * nI c)) + nI q) 54 ∧ wm_Wp 0 267 414 [.ref 89, .int (nI w), .int (nI ch), .null, .int (nI c), .int (nI q), .null] (wm_si η 98 (((((9 : Int32) * nI w) + ((3 : Int32) * nI c)) + nI q)).toNatClampNeg (999 : Int32)) (fun w ν => w = none ∧ Q ν))) ∧ (¬ x = (-1 : Int32) → (vp_in x 864 ∧ (vp_in ((((9 : Int32) * nI w) + ((3 : Int32) * nI c)) + nI q) 54 ∧ wm_Wp 0 267 414 [.ref 89, .int (nI w), .int (nI ch), .null, .int (nI c), .int (nI q), .null] (wm_si η 98 (((((9 : Int32) * nI w) + ((3 : Int32) * nI c)) + nI q)).toNatClampNeg (η.1 96 (x).toNatClampNeg)) (fun w ν => w = none ∧ Q ν))))) := fun η x a1 a2 a3 => by
                  have put : ∀ v : Nat, v = cm2A A w ch s T q → wm_Wp 0 267 414 [.ref 89, .int (nI w), .int (nI ch), .null, .int (nI c), .int (nI q), .null] (wm_si η 98 (9 * w + 3 * c + q) (nI v)) (fun w ν => w = none ∧ Q ν) := fun v hv => by
                    refine nx _ ((z1.tr a1).si (by decide)) (fun hr s a b d e => ?_) ?_ ?_ ?_ ?_ ?_ (by rw [si_same, hv]) (fun i hi => ?_)
                    · rw [si_ne _ _ _ (by decide), a2 95 (by decide) (by decide)]; exact z2 hr s a b d e
                    · rw [si_ne _ _ _ (by decide)]; exact a2 99 (by decide) (by decide)
                    · rw [si_ne _ _ _ (by decide)]; exact a2 100 (by decide) (by decide)
                    · rw [si_ne _ _ _ (by decide)]; exact a2 101 (by decide) (by decide)
                    · rw [si_ne _ _ _ (by decide)]; exact a2 102 (by decide) (by decide)
                    · rw [si_ne _ _ _ (by decide)]; exact a2 103 (by decide) (by decide)
                    · rw [si_other _ _ hi, a2 98 (by decide) (by decide)]
                  rw [pl, nI_clamp (show 9 * w + 3 * c + q < 2 ^ 31 by omega)]
                  have v54 : vp_in (nI (9 * w + 3 * c + q)) 54 := vp_in_nI (by omega) (by decide)
                  rcases a3 with ⟨rfl, a3⟩ | ⟨e, rfl, he, t, a3, a4⟩
                  · exact ⟨fun _ => ⟨v54, put 999 (by rw [hC2, a3])⟩, fun z => absurd rfl z⟩
                  · rw [nI_clamp (show e < 2 ^ 31 by omega), a4]
                    exact ⟨fun z => absurd z (nI_n1 he), fun _ => ⟨vp_in_nI he (by decide), v54, put t (by rw [hC2, a3])⟩⟩
                refine ⟨fun z => absurd z (nI_n1 p1), fun _ => w_267_325 _ _ _ _ _ _ ⟨vq, vq, s_188 4 (by decide) ?_⟩⟩
                rw [cq, u0, u1, e4 hMρ]
                refine ⟨fun z => s_188 4 (by decide) ?_, fun z => ⟨vq, ?_⟩⟩
                · have z := (nI_leI (by omega) (by omega)).mp z
                  rw [e4 hMρ]
                  have em : max T2 (A 2044) = A 2044 := by omega
                  rw [em] at ends done m2 tm2
                  exact m_252w w ch s2 (A 2044) (hq (A 2050)) p1 m2 hc0 hch p6 (hq_mono tm2) hB hMρ z2 (fun η a1 a2 a3 => ends η a2 a1 a3 _ (fun x κ a4 a5 => by subst a5; exact done κ x a2 a3 a4))
                · have z : ¬ T2 ≤ A 2044 := fun y => z ((nI_leI (by omega) (by omega)).mpr y)
                  have em : max T2 (A 2044) = T2 := by omega
                  rw [em] at ends done m2 tm2
                  exact m_252w w ch s2 T2 (hq (A 2050)) p1 m2 hc0 hch p6 (hq_mono tm2) hB hMρ z2 (fun η a1 a2 a3 => ends η a2 a1 a3 _ (fun x κ a4 a5 => by subst a5; exact done κ x a2 a3 a4))
          have mid : ∀ j q ρ, q + j = 3 → (∀ d, d ≠ 102 → d ≠ 103 → ρ.1 d = κ.1 d) → (∀ q', q' < q → ρ.1 102 q' = otI (wyA A w 1 ch s (max T (A 2043)) (A (2001 + q'))) (fun r => r.1) (-1) ∧ ρ.1 103 q' = otI (wyA A w 1 ch s (max T (A 2043)) (A (2001 + q'))) (fun r => r.2) 0) → wm_Wp 0 267 234 [.ref 89, .int (nI w), .int (nI ch), .null, .int (nI c), .int (nI q), .null] ρ (fun w ν => w = none ∧ Q ν) := by
            intro j
            induction j with
            | zero =>
              intro q ρ hj z1 z2
              have : q = 3 := by omega
              subst this
              refine w_267_234 _ _ _ _ _ _ ⟨fun _ => w_267_302 _ _ _ _ _ (last 3 0 ρ rfl (gF.tr ⟨fun d a b => z1 d (by omega) (by omega), fun i _ => by rw [z1 89 (by decide) (by decide)]⟩) (fun hr s a b d e => ?_) ?_ ?_ ?_ z2 (fun q' h => by omega) (fun q' _ h => ?_) (fun i hi => ?_)), fun z => absurd (nI_le (Nat.le_refl 3) (by decide)) z⟩
              · rw [z1 95 (by decide) (by decide), gd 95 (by decide) (by decide)]; exact hSξ hr s a b d e
              · rw [z1 99 (by decide) (by decide), gd 99 (by decide) (by decide)]; exact x3 99 (by decide)
              · rw [z1 100 (by decide) (by decide), gd 100 (by decide) (by decide)]; exact x3 100 (by decide)
              · rw [z1 101 (by decide) (by decide), gd 101 (by decide) (by decide)]; exact x3 101 (by decide)
              · rw [z1 98 (by decide) (by decide), gd 98 (by decide) (by decide)]; exact x1 q' h
              · rw [z1 98 (by decide) (by decide), gd 98 (by decide) (by decide)]; exact x2 i hi
            | succ j ihq =>
              intro q ρ hj z1 z2
              have hq3 : q < 3 := by omega
              have bq := hB.choice hq3
              have vq : vp_in (nI q) 3 := vp_in_nI hq3 (by decide)
              have cq : (nI q).toNatClampNeg = q := nI_clamp (by omega)
              have hMρ : RM 91 A ρ := (fM hM gF).fr (z1 91 (by decide) (by decide))
              refine w_267_234 _ _ _ _ _ _ ⟨fun z => absurd z (nI_ge (a := q) (b := 3) (by omega) (by decide)), fun _ => ?_⟩
              rw [show (2001 : Int32) + nI q = nI (2001 + q) from nI_add 2001 q, nI_clamp (show 2001 + q < 2 ^ 31 by omega), hMρ (2001 + q) (by omega)]
              have go : ∀ x y : Int32, x = otI (wyA A w 1 ch s (max T (A 2043)) (A (2001 + q))) (fun r => r.1) (-1) → y = otI (wyA A w 1 ch s (max T (A 2043)) (A (2001 + q))) (fun r => r.2) 0 → wm_Wp 0 267 234 [.ref 89, .int (nI w), .int (nI ch), .null, .int (nI c), .int (nI (q + 1)), .null] (wm_si (wm_si ρ 102 q x) 103 q y) (fun w ν => w = none ∧ Q ν) := fun x y hx hy => by
                refine ihq (q + 1) _ (by omega) (fun d a b => by rw [si_ne _ _ _ b, si_ne _ _ _ a]; exact z1 d a b) (fun q' hq' => ?_)
                by_cases e : q' = q
                · subst e
                  rw [si_ne _ _ _ (show 102 ≠ 103 by decide), si_same, si_same]
                  exact ⟨hx, hy⟩
                · rw [si_ne _ _ _ (show 102 ≠ 103 by decide), si_other _ _ e, si_other _ _ e, si_ne _ _ _ (show 103 ≠ 102 by decide)]
                  exact z2 q' (by omega)
              refine ⟨vp_in_nI (by omega) (by decide), m_254w (A (2001 + q)) bq (w := w) (tab := 1) (ch := ch) (s0 := s) (t0 := max T (A 2043)) (A := A) (fun s hs => by rw [z1 96 (by decide) (by decide)]; exact gL s hs) (fun z => ⟨vq, vq, ?_⟩) (fun s2 T2 z y1 y2 => ⟨vq, vq, ?_⟩)⟩
              · rw [cq, si_same, nI_1]
                exact ⟨fun _ => ⟨vq, go _ _ (by rw [z]; rfl) (by rw [z]; rfl)⟩, fun y => absurd rfl y⟩
              · rw [cq, si_same, nI_1, nI_clamp (show s2 < 2 ^ 31 by omega), si_ne _ _ _ (show 96 ≠ 102 by decide), y2]
                exact ⟨fun y => absurd y (nI_n1 y1), fun _ => ⟨vq, vp_in_nI y1 (by decide), vq, go _ _ (by rw [z]; rfl) (by rw [z]; rfl)⟩⟩
          exact mid 3 0 κ rfl (fun _ _ _ => rfl) (fun q' h => by omega)
        refine w_267_189 _ _ _ _ _ ⟨vc, vc, s_188 3 (by decide) ?_⟩
        rw [cc, x3 100 (by decide), x3 101 (by decide), y0, y1, e3 hMξ]
        refine ⟨fun z => s_188 3 (by decide) ?_, fun z => ⟨vc, ?_⟩⟩
        · have z := (nI_leI (by omega) (by omega)).mp z
          rw [e3 hMξ]
          have em : max T (A 2043) = A 2043 := by omega
          rw [em] at third m1 tm
          exact m_252w w ch s (A 2043) (hq (A 2050)) o1 m1 hc0 hch o6 (hq_mono tm) hB hMξ hSξ (fun η a1 a2 a3 => third η (hFξ.tr a2) a1 a3)
        · have z : ¬ T ≤ A 2043 := fun y => z ((nI_leI (by omega) (by omega)).mpr y)
          have em : max T (A 2043) = T := by omega
          rw [em] at third m1 tm
          exact m_252w w ch s T (hq (A 2050)) o1 m1 hc0 hch o6 (hq_mono tm) hB hMξ hSξ (fun η a1 a2 a3 => third η (hFξ.tr a2) a1 a3)
  have begin : ∀ j c ν, c + j = 3 → FwO μ ν → LSt A w 1 (hq (A 2050)) 10368 ν → LabM (LF A w 1 ch (bstA A) (A 2050)) ν → ν.1 99 w = nI (sooA A w ch) → (∀ i, i ≠ w → ν.1 99 i = μ.1 99 i) → (∀ c', c' < c → ν.1 100 c' = otI (wyA A w 1 ch (bstA A) (A 2050) (A (2001 + c'))) (fun r => r.1) (-1) ∧ ν.1 101 c' = otI (wyA A w 1 ch (bstA A) (A 2050) (A (2001 + c'))) (fun r => r.2) 0) → ν.1 98 = μ.1 98 → wm_Wp 0 267 63 [.ref 89, .int (nI w), .int (nI ch), .null, .int (nI c), .null, .null] ν (fun w ν => w = none ∧ Q ν) := by
    intro j
    induction j with
    | zero =>
      intro c ν hj hF hS hL h99 h99' h100 h98
      have : c = 3 := by omega
      subst this
      exact w_267_63 _ _ _ _ _ ⟨fun _ => w_267_131 _ _ _ _ (outer 3 0 ν rfl hF hS h99 h99' h100 (fun c' q h => by omega) (fun i _ => by rw [h98])), fun q => absurd (nI_le (Nat.le_refl 3) (by decide)) q⟩
    | succ j ih =>
      intro c ν hj hF hS hL h99 h99' h100 h98
      have hc3 : c < 3 := by omega
      have bc := hB.choice hc3
      have vc : vp_in (nI c) 3 := vp_in_nI hc3 (by decide)
      have cc : (nI c).toNatClampNeg = c := nI_clamp (by omega)
      have hMν := fM hM hF
      refine w_267_63 _ _ _ _ _ ⟨fun z => absurd z (nI_ge (a := c) (b := 3) (by omega) (by decide)), fun _ => ?_⟩
      rw [show (2001 : Int32) + nI c = nI (2001 + c) from nI_add 2001 c, nI_clamp (show 2001 + c < 2 ^ 31 by omega), hMν (2001 + c) (by omega)]
      have go : ∀ x y : Int32, x = otI (wyA A w 1 ch (bstA A) (A 2050) (A (2001 + c))) (fun r => r.1) (-1) → y = otI (wyA A w 1 ch (bstA A) (A 2050) (A (2001 + c))) (fun r => r.2) 0 → wm_Wp 0 267 63 [.ref 89, .int (nI w), .int (nI ch), .null, .int (nI (c + 1)), .null, .null] (wm_si (wm_si ν 100 c x) 101 c y) (fun w ν => w = none ∧ Q ν) := fun x y hx hy => by
        have dd : ∀ d, d ≠ 100 → d ≠ 101 → (wm_si (wm_si ν 100 c x) 101 c y).1 d = ν.1 d := fun d a b => by rw [si_ne _ _ _ b, si_ne _ _ _ a]
        refine ih (c + 1) _ (by omega) ((hF.si (by decide)).si (by decide)) (fun hr s a b d e => by rw [dd 95 (by decide) (by decide)]; exact hS hr s a b d e) (fun s hs => by rw [dd 96 (by decide) (by decide)]; exact hL s hs) (by rw [dd 99 (by decide) (by decide)]; exact h99) (fun i hi => by rw [dd 99 (by decide) (by decide)]; exact h99' i hi) (fun c' hc' => ?_) (by rw [dd 98 (by decide) (by decide)]; exact h98)
        by_cases e : c' = c
        · subst e
          rw [si_ne _ _ _ (show 100 ≠ 101 by decide), si_same, si_same]
          exact ⟨hx, hy⟩
        · rw [si_ne _ _ _ (show 100 ≠ 101 by decide), si_other _ _ e, si_other _ _ e, si_ne _ _ _ (show 101 ≠ 100 by decide)]
          exact h100 c' (by omega)
      refine ⟨vp_in_nI (by omega) (by decide), m_254w (A (2001 + c)) bc hL (fun z => ⟨vc, vc, ?_⟩) (fun s2 T2 z y1 y2 => ⟨vc, vc, ?_⟩)⟩
      · rw [cc, si_same, nI_1]
        exact ⟨fun _ => ⟨vc, go _ _ (by rw [z]; rfl) (by rw [z]; rfl)⟩, fun y => absurd rfl y⟩
      · rw [cc, si_same, nI_1, nI_clamp (show s2 < 2 ^ 31 by omega), si_ne _ _ _ (show 96 ≠ 100 by decide), y2]
        exact ⟨fun y => absurd y (nI_n1 y1), fun _ => ⟨vc, vp_in_nI y1 (by decide), vc, go _ _ (by rw [z]; rfl) (by rw [z]; rfl)⟩⟩
  refine v_267 _ _ _ _ (s_188 10 (by decide) ?_)
  rw [e10 hM]
  refine m_250 w 1 (A 2050) (by omega) (by decide) (by omega) hB hX hM hLR (fun κ hT hG => ?_)
  have hFκ : FwO μ κ := ⟨fun d a b => hG d (by omega), fun i _ => by rw [hG 89 (by decide)]⟩
  have hMκ := fM hM hFκ
  refine m_257 hMκ (s_188 10 (by decide) ?_)
  rw [e10 hMκ]
  refine m_252w w ch (bstA A) (A 2050) (hq (A 2050)) hs0 (by omega) hc0 hch hx (Nat.le_refl _) hB hMκ hT (fun η a1 a2 a3 => s_188 5 (by decide) ?_)
  rw [e5 (fM hMκ a2)]
  have sS : sooA A w ch = (match wyA A w 1 ch (bstA A) (A 2050) (A 2045) with | none => 999 | some r => r.2) := rfl
  have put : ∀ v : Nat, v = sooA A w ch → wm_Wp 0 267 63 [.ref 89, .int (nI w), .int (nI ch), .null, .int (0 : Int32), .null, .null] (wm_si η 99 w (nI v)) (fun w ν => w = none ∧ Q ν) := fun v hv => by
    have dd : ∀ d, d ≠ 99 → (wm_si η 99 w (nI v)).1 d = η.1 d := fun d a => si_ne _ _ _ a
    refine begin 3 0 _ rfl ((hFκ.tr a2).si (by decide)) (fun hr s a b d e => ?_) (fun s hs => by rw [dd 96 (by decide)]; exact a1 s hs) (by rw [si_same, hv]) (fun i hi => ?_) (fun c' h => by omega) ?_
    · rw [dd 95 (by decide), a3 95 (by decide) (by decide)]; exact hT hr s a b d e
    · rw [si_other _ _ hi, a3 99 (by decide) (by decide), hG 99 (by decide)]
    · rw [dd 98 (by decide), a3 98 (by decide) (by decide), hG 98 (by decide)]
  refine m_254w (A 2045) bm a1 (fun z => ⟨fun _ => ⟨vw, ?_⟩, fun y => absurd rfl y⟩) (fun s T z y1 y2 => ⟨fun y => absurd y (nI_n1 y1), fun _ => ⟨vp_in_nI y1 (by decide), vw, ?_⟩⟩)
  · rw [cw]
    exact put 999 (by rw [sS, z])
  · rw [cw, nI_clamp (show s < 2 ^ 31 by omega), y2]
    exact put T (by rw [sS, z])
