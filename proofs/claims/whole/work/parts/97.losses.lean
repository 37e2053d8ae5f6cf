/-! ===== class: keepPlan, workOut, share ===== -/
def wS_ (w s : Nat) : Nat := if s % 2 = 0 then w else 6
def tS_ (s : Nat) : Nat := s / 2 % 2
def cS_ (ch s : Nat) : Nat := if s / 4 % 2 = 0 then ch else 2
/-- the plan kept for a set -/
def KP (A : Nat → Nat) (w s : Nat) (ν : wm_M) : Prop := match plO A (wS_ w s) (tS_ s) (cS_ (chA A) s) with
  | none => ν.1 83 s = -1
  | some L => L.length ≤ 120 ∧ ν.1 83 s = nI L.length ∧ ∀ j, j < L.length → ν.1 82 (121 * s + j) = nI (L.getD j 0)
theorem KP.of {A : Nat → Nat} {w s : Nat} {μ ν : wm_M} (h : KP A w s μ) (e1 : ν.1 83 s = μ.1 83 s) (e2 : ∀ j, j < 121 → ν.1 82 (121 * s + j) = μ.1 82 (121 * s + j)) : KP A w s ν := by
  unfold KP at h ⊢
  cases ho : plO A (wS_ w s) (tS_ s) (cS_ (chA A) s) with
  | none => rw [ho] at h; rw [e1]; exact h
  | some L =>
    rw [ho] at h
    obtain ⟨h1, h2, h3⟩ := h
    exact ⟨h1, e1.trans h2, fun j hj => (e2 j (by omega)).trans (h3 j hj)⟩
/-- draw's, the ways' and the losses' own cells may have changed -/
def F8 (μ ν : wm_M) : Prop := ∀ d, d ≠ 25 → d ≠ 26 → (d < 62 ∨ d = 68 ∨ (74 < d ∧ d < 82) ∨ 84 < d) → ν.1 d = μ.1 d
theorem c_56 {n : Nat} {A : Nat → Nat} (w s : Nat) (hw : w < 6) (hs : s < 8) {μ : wm_M} {Q : wm_M → Prop} (hC : Chd n A (wS_ w s) (tS_ s) μ) (hp : A 2046 = 1) (hk : ∀ ν, (∀ d, d < 69 ∨ (74 < d ∧ d < 82) ∨ 83 < d → ν.1 d = μ.1 d) → KP A w s ν → (∀ i, i ≠ s → ν.1 83 i = μ.1 83 i) → (∀ i, ¬ (121 * s ≤ i ∧ i < 121 * s + 121) → ν.1 82 i = μ.1 82 i) → Q ν) : wm_OkV 0 56 [.ref 81, .int (nI s), .int (nI (cS_ (chA A) s))] μ Q := by
  have b1 := hC.1.1.pst
  have b2 := hC.1.1.ptick
  have bm := hC.1.1.mark
  have ch := chA_le hC.1.1
  have hx := (hC.1.2.1.2.2 hp).2
  have cb : 0 < cS_ (chA A) s ∧ cS_ (chA A) s ≤ 10 := by unfold cS_; split <;> omega
  have w7 : wS_ w s < 7 := by unfold wS_; split <;> omega
  have vs : vp_in (nI s) 8 := vp_in_nI hs (by decide)
  have cs : (nI s).toNatClampNeg = s := nI_clamp (by omega)
  refine v_56 _ _ _ _ ?_
  rw [hC.1.2.2.1.pst, hC.1.2.2.1.ptick, hC.1.2.2.1.mark, cs]
  generalize hkp : KP A w s = K at hk
  refine c_112 (wS_ w s) (tS_ s) (cS_ (chA A) s) (A 2051) (A 2052) (A 2045) w7 b1 (by omega) cb.1 (by omega) hx bm hC (fun κ k1 k2 => ⟨vs, fun _ => w_56_70 _ _ ⟨rfl, hk _ ?_ ?_ ?_ ?_⟩, fun q => absurd (by decide) q⟩) (fun κ p T k1 k2 k3 k4 => ⟨vs, ?_⟩)
  · exact fun d hd => by rw [si_ne _ _ _ (by omega)]; exact k1 d (by omega)
  · rw [← hkp]
    unfold KP plO
    rw [k2]
    exact si_same _ _ _ _
  · exact fun i hi => by rw [si_other _ _ hi, k1 83 (by decide)]
  · exact fun i _ => by rw [si_ne _ _ _ (by decide), k1 82 (by decide)]
  · have hO : plO A (wS_ w s) (tS_ s) (cS_ (chA A) s) = some (plA A (wS_ w s) (tS_ s) (cS_ (chA A) s) (A 2051) (A 2052) p).reverse := by
      unfold plO
      rw [k2]; rfl
    have hK : ∀ ν, K ν ↔ ((plA A (wS_ w s) (tS_ s) (cS_ (chA A) s) (A 2051) (A 2052) p).reverse.length ≤ 120 ∧ ν.1 83 s = nI (plA A (wS_ w s) (tS_ s) (cS_ (chA A) s) (A 2051) (A 2052) p).reverse.length ∧ ∀ j, j < (plA A (wS_ w s) (tS_ s) (cS_ (chA A) s) (A 2051) (A 2052) p).reverse.length → ν.1 82 (121 * s + j) = nI ((plA A (wS_ w s) (tS_ s) (cS_ (chA A) s) (A 2051) (A 2052) p).reverse.getD j 0)) := fun ν => by
      rw [← hkp]
      unfold KP
      rw [hO]
    clear hO
    generalize plA A (wS_ w s) (tS_ s) (cS_ (chA A) s) (A 2051) (A 2052) p = P at *
    rw [List.length_reverse] at hK
    refine ⟨fun z => w_56_70 _ _ ⟨rfl, hk _ ?_ ?_ ?_ ?_⟩, fun z => ⟨by decide, ?_, nI_pos (by omega), ?_, ?_, fun ξ hξ => w_56_70 _ _ ⟨rfl, hk _ ?_ ?_ ?_ ?_⟩⟩⟩
    · exact fun d hd => by rw [si_ne _ _ _ (by omega)]; exact k1 d (by omega)
    · have z := (nI_leI (b := 0) (by omega) (by decide)).mp z
      exact (hK _).mpr ⟨k3, si_same _ _ _ _, fun j hj => by omega⟩
    · exact fun i hi => by rw [si_other _ _ hi, k1 83 (by decide)]
    · exact fun i _ => by rw [si_ne _ _ _ (by decide), k1 82 (by decide)]
    · rw [show nI s * (121 : Int32) = nI (s * 121) from pk_mul s 121]
      exact nI_pos (by omega)
    · rw [nI_clamp (show P.length < 2 ^ 31 by omega), show ((0 : Int32)).toNatClampNeg = 0 from by decide +kernel]; omega
    · rw [nI_clamp (show P.length < 2 ^ 31 by omega), show nI s * (121 : Int32) = nI (s * 121) from pk_mul s 121, nI_clamp (show s * 121 < 2 ^ 31 by omega)]; omega
    · exact fun d hd => by rw [hξ, sr_ne _ _ (by omega), si_ne _ _ _ (by omega)]; exact k1 d (by omega)
    · refine (hK _).mpr ⟨k3, ?_, fun j hj => ?_⟩
      · rw [hξ, sr_ne _ _ (by decide), si_same]
      · rw [hξ, sr_eq, show nI s * (121 : Int32) = nI (s * 121) from pk_mul s 121, nI_clamp (show s * 121 < 2 ^ 31 by omega), nI_clamp (show P.length < 2 ^ 31 by omega), show ((0 : Int32)).toNatClampNeg = 0 from by decide +kernel, pk_cpy_in (by omega) (by omega), si_ne _ _ _ (by decide), show 0 + (121 * s + j - s * 121) = j by omega, k4 j hj, getD_rev hj]
    · exact fun i hi => by rw [hξ, sr_ne _ _ (by decide), si_other _ _ hi, k1 83 (by decide)]
    · intro i hi
      rw [hξ, sr_eq, show nI s * (121 : Int32) = nI (s * 121) from pk_mul s 121, nI_clamp (show s * 121 < 2 ^ 31 by omega), nI_clamp (show P.length < 2 ^ 31 by omega), pk_cpy_out (by omega), si_ne _ _ _ (by decide), k1 82 (by decide)]
theorem bit1 : ∀ s, s < 8 → (nI s &&& (1 : Int32) = 0 ↔ s % 2 = 0) := by decide +kernel
theorem bit2 : ∀ s, s < 8 → (nI s &&& (2 : Int32) = 0 ↔ s / 2 % 2 = 0) := by decide +kernel
theorem bit4 : ∀ s, s < 8 → (nI s &&& (4 : Int32) = 0 ↔ s / 4 % 2 = 0) := by decide +kernel
theorem or4 : ∀ s, s < 4 → nI s ||| (4 : Int32) = nI (s + 4) := by decide +kernel
/-- what sailed is for a set -/
noncomputable def sdA (A : Nat → Nat) (w s : Nat) : Nat := slA A (wS_ w s) (tS_ s) (cS_ (chA A) s)
theorem sd_le {m : Nat} {A : Nat → Nat} (hB : BA m A) (w s : Nat) : sdA A w s ≤ 999 := by
  have := hB.ptick
  unfold sdA slA
  split
  · exact Nat.le_refl _
  · exact sgo_le _ _ _ _ _ (by omega)
theorem RA.l8 {n : Nat} {A : Nat → Nat} {μ ν : wm_M} (h : RA n A μ) (e : ∀ d, d < 69 ∨ (74 < d ∧ d < 82) ∨ 84 < d → ν.1 d = μ.1 d) : RA n A ν := h.sm (fun c i q => congrFun (e c (Decidable.byContradiction (fun r => by
  have k : ∀ d, (∀ i, kR d i = false) → c ≠ d := fun d hd z => by rw [z, hd i] at q; cases q
  have n1 := k 69 (fun _ => rfl)
  have n2 := k 70 (fun _ => rfl)
  have n3 := k 71 (fun _ => rfl)
  have n4 := k 72 (fun _ => rfl)
  have n5 := k 73 (fun _ => rfl)
  have n6 := k 74 (fun _ => rfl)
  have n7 := k 82 (fun _ => rfl)
  have n8 := k 83 (fun _ => rfl)
  have n9 := k 84 (fun _ => rfl)
  omega))) i)
theorem RO.l8 {n : Nat} {μ ν : wm_M} (h : RO n μ) (e : ∀ d, d < 69 ∨ (74 < d ∧ d < 82) ∨ 84 < d → ν.1 d = μ.1 d) : RO n ν := h.sm (fun c i q => congrFun (e c (Decidable.byContradiction (fun r => by
  have k : ∀ d, (∀ i, kO d i = false) → c ≠ d := fun d hd z => by rw [z, hd i] at q; cases q
  have n1 := k 69 (fun _ => rfl)
  have n2 := k 70 (fun _ => rfl)
  have n3 := k 71 (fun _ => rfl)
  have n4 := k 72 (fun _ => rfl)
  have n5 := k 73 (fun _ => rfl)
  have n6 := k 74 (fun _ => rfl)
  have n7 := k 82 (fun _ => rfl)
  have n8 := k 83 (fun _ => rfl)
  have n9 := k 84 (fun _ => rfl)
  omega))) i)
theorem Chd.l8 {m : Nat} {A : Nat → Nat} {w tab : Nat} {μ ν : wm_M} (h : Chd m A w tab μ) (e : ∀ d, d < 69 ∨ (74 < d ∧ d < 82) ∨ 84 < d → ν.1 d = μ.1 d) : Chd m A w tab ν := by
  obtain ⟨h1, h2, h3, h4⟩ := h
  refine ⟨h1.sm (fun c i q => congrFun (e c (Decidable.byContradiction (fun r => ?_))) i), askd_of (e 63 (by decide)) (e 64 (by decide)) h2, drwn_of (e 65 (by decide)) (e 66 (by decide)) (e 67 (by decide)) h3, fun c h' hc hh => ?_⟩
  · have k : ∀ d, (∀ i, kA 0 d i = false) → c ≠ d := fun d hd z => by rw [z, hd i] at q; cases q
    have n1 := k 69 (fun _ => rfl)
    have n2 := k 70 (fun _ => rfl)
    have n3 := k 71 (fun _ => rfl)
    have n4 := k 72 (fun _ => rfl)
    have n5 := k 73 (fun _ => rfl)
    have n6 := k 74 (fun _ => rfl)
    have n7 := k 82 (fun _ => rfl)
    have n8 := k 83 (fun _ => rfl)
    have n9 := k 84 (fun _ => rfl)
    omega
  · rw [e 68 (by decide)]; exact h4 c h' hc hh
theorem c_55 {n : Nat} {A : Nat → Nat} (w : Nat) (hw : w < 6) {μ : wm_M} {Q : wm_M → Prop} (hA : RA n A μ) (hO : RO n μ) (hK : askd A μ) (hp : A 2046 = 1) (hk : ∀ ν, RA n A ν → RO n ν → (∀ s, s < 8 → ν.1 84 s = nI (sdA A w s)) → Q ν) : wm_OkV 0 55 [.ref 81, .int (nI w), .int (nI (chA A))] μ Q := by
  have ch := chA_le hA.1
  -- the second loop
  have second : ∀ ν0, RA n A ν0 → RO n ν0 → Chd n A 6 1 ν0 → (∀ s, s < 8 → KP A w s ν0) → ∀ j s ν, s + j = 8 → (∀ d, d ≠ 84 → ν.1 d = ν0.1 d) → (∀ s', s' < s → ν.1 84 s' = nI (sdA A w s')) → wm_Wp 0 55 69 [.ref 81, .null, .int (nI (chA A)), .int (nI s)] ν (fun w ν => w = none ∧ Q ν) := by
    intro ν0 hA0 hO0 hC0 hKP j
    induction j with
    | zero =>
      intro s ν hj hF h84
      have : s = 8 := by omega
      subst this
      exact w_55_69 _ _ _ _ ⟨fun _ => w_55_103 _ _ ⟨rfl, hk ν (hA0.l8 (fun d q => hF d (by omega))) (hO0.l8 (fun d q => hF d (by omega))) h84⟩, fun q => absurd (nI_le (Nat.le_refl 8) (by decide)) q⟩
    | succ j ih =>
      intro s ν hj hF h84
      have hs : s < 8 := by omega
      have vs : vp_in (nI s) 8 := vp_in_nI hs (by decide)
      have hCν := hC0.l8 (fun d q => hF d (by omega))
      have kp := (hKP s hs).of (ν := ν) (by rw [hF 83 (by decide)]) (fun j _ => by rw [hF 82 (by decide)])
      have cb : 0 < cS_ (chA A) s ∧ cS_ (chA A) s ≤ 10 := by unfold cS_; split <;> omega
      have put : wm_OkI 0 57 [.ref 81, .int (nI s), .int (nI (cS_ (chA A) s))] ν (fun r2 μ1 => (vp_in (nI s) 8 ∧ wm_Wp 0 55 69 [.ref 81, .null, .int (nI (chA A)), .int (nI s + (1 : Int32))] (wm_si μ1 84 (nI s).toNatClampNeg r2) (fun w ν => w = none ∧ Q ν))) := by
        have fin : ∀ x, x = nI (sdA A w s) → (vp_in (nI s) 8 ∧ wm_Wp 0 55 69 [.ref 81, .null, .int (nI (chA A)), .int (nI s + (1 : Int32))] (wm_si ν 84 (nI s).toNatClampNeg x) (fun w ν => w = none ∧ Q ν)) := fun x hx => by
          rw [nI_clamp (show s < 2 ^ 31 by omega), nI_1]
          refine ⟨vs, ih (s + 1) _ (by omega) (fun d hd => by rw [si_ne _ _ _ hd]; exact hF d hd) (fun s' h => ?_)⟩
          by_cases e : s' = s
          · subst e; rw [si_same, hx]
          · rw [si_other _ _ e]; exact h84 s' (by omega)
        have sd : sdA A w s = (match plO A (wS_ w s) (tS_ s) (cS_ (chA A) s) with | none => 999 | some L => sgo A (cS_ (chA A) s) L (A 2051 / 24) (A 2051 / 3 % 8) (A 2051 % 3) (A 2052)) := rfl
        unfold KP at kp
        cases ho : plO A (wS_ w s) (tS_ s) (cS_ (chA A) s) with
        | none =>
          rw [ho] at kp sd
          refine v_57 _ _ _ _ ⟨vs, ?_⟩
          rw [nI_clamp (show s < 2 ^ 31 by omega), kp]
          have := fin 999 (by rw [sd]; rfl)
          rw [nI_clamp (show s < 2 ^ 31 by omega)] at this
          exact ⟨fun _ => ⟨_, rfl, this⟩, fun q => absurd rfl q⟩
        | some L =>
          rw [ho] at kp sd
          obtain ⟨k1, k2, k3⟩ := kp
          exact c_57 s (cS_ (chA A) s) L hs (by omega) k1 (plO_x cb.1 hA.1 hA.2.1 hp ho) hCν k2 k3 (fin _ (by rw [sd]))
      refine w_55_69 _ _ _ _ ⟨fun q => absurd q (nI_ge (a := s) (b := 8) (by omega) (by decide)), fun _ => ⟨fun z => ?_, fun z => ?_⟩⟩
      · rw [show cS_ (chA A) s = chA A by unfold cS_; exact if_pos ((bit4 s hs).mp z)] at put
        exact put
      · rw [show cS_ (chA A) s = 2 by unfold cS_; exact if_neg (fun r => z ((bit4 s hs).mpr r))] at put
        exact put
  have lp : ∀ j s ν, s + j = 4 → RA n A ν → RO n ν → askd A ν → (∀ s', s' < s → KP A w s' ν ∧ KP A w (s' + 4) ν) → wm_Wp 0 55 2 [.ref 81, .int (nI w), .int (nI (chA A)), .int (nI s)] ν (fun w ν => w = none ∧ Q ν) := by
    intro j
    induction j with
    | zero =>
      intro s ν hj hAν hOν hKν hP
      have : s = 4 := by omega
      subst this
      refine w_55_2 _ _ _ _ _ ⟨fun _ => w_55_57 _ _ _ (c_19r 6 1 (by decide) (by decide) hAν hOν hKν (fun κ hAκ hOκ hCκ hZ => second κ hAκ hOκ hCκ (fun s hs => ?_) 8 0 κ rfl (fun _ _ => rfl) (fun s' h => by omega))), fun q => absurd (nI_le (Nat.le_refl 4) (by decide)) q⟩
      have e83 : κ.1 83 = ν.1 83 := hZ 83 (by decide) (by decide) (by decide) (by decide) (by decide) (by decide) (by decide) (by decide)
      have e82 : κ.1 82 = ν.1 82 := hZ 82 (by decide) (by decide) (by decide) (by decide) (by decide) (by decide) (by decide) (by decide)
      by_cases q : s < 4
      · exact (hP s q).1.of (by rw [e83]) (fun j _ => by rw [e82])
      · have := (hP (s - 4) (by omega)).2
        rw [show s - 4 + 4 = s by omega] at this
        exact this.of (by rw [e83]) (fun j _ => by rw [e82])
    | succ j ih =>
      intro s ν hj hAν hOν hKν hP
      have s4 : s < 4 := by omega
      have body : ∀ W T, W = wS_ w s → T = tS_ s → wm_OkV 0 19 [.ref 62, .int (nI W), .int (nI T)] ν (fun μ1 => wm_OkV 0 56 [.ref 81, .int (nI s), .int (nI (chA A))] μ1 (fun μ2 => wm_OkV 0 56 [.ref 81, .int (nI s ||| (4 : Int32)), .int (2 : Int32)] μ2 (fun μ3 => wm_Wp 0 55 2 [.ref 81, .int (nI w), .int (nI (chA A)), .int (nI s + (1 : Int32))] μ3 (fun w ν => w = none ∧ Q ν)))) := fun W T hW hT => by
        have W7 : W < 7 := by rw [hW]; unfold wS_; split <;> omega
        have T2 : T < 2 := by rw [hT]; unfold tS_; omega
        refine c_19r W T W7 T2 hAν hOν hKν (fun κ hAκ hOκ hCκ hZ => ?_)
        have e83 : κ.1 83 = ν.1 83 := hZ 83 (by decide) (by decide) (by decide) (by decide) (by decide) (by decide) (by decide) (by decide)
        have e82 : κ.1 82 = ν.1 82 := hZ 82 (by decide) (by decide) (by decide) (by decide) (by decide) (by decide) (by decide) (by decide)
        subst hW; subst hT
        have c1 := c_56 (A := A) (μ := κ) (Q := fun μ2 => wm_OkV 0 56 [.ref 81, .int (nI s ||| (4 : Int32)), .int (2 : Int32)] μ2 (fun μ3 => wm_Wp 0 55 2 [.ref 81, .int (nI w), .int (nI (chA A)), .int (nI s + (1 : Int32))] μ3 (fun w ν => w = none ∧ Q ν))) w s hw (by omega) hCκ hp (fun ξ x1 x2 x3 x4 => by
          have eW : wS_ w (s + 4) = wS_ w s := by unfold wS_; rw [show (s + 4) % 2 = s % 2 by omega]
          have eT : tS_ (s + 4) = tS_ s := by unfold tS_; omega
          have hCξ : Chd n A (wS_ w (s + 4)) (tS_ (s + 4)) ξ := by rw [eW, eT]; exact hCκ.l8 (fun d q => x1 d (by omega))
          have c2 := c_56 (A := A) (μ := ξ) (Q := fun μ3 => wm_Wp 0 55 2 [.ref 81, .int (nI w), .int (nI (chA A)), .int (nI s + (1 : Int32))] μ3 (fun w ν => w = none ∧ Q ν)) w (s + 4) hw (by omega) hCξ hp (fun ρ y1 y2 y3 y4 => by
            rw [nI_1]
            refine ih (s + 1) ρ (by omega) ((hAκ.l8 (fun d q => x1 d (by omega))).l8 (fun d q => y1 d (by omega))) ((hOκ.l8 (fun d q => x1 d (by omega))).l8 (fun d q => y1 d (by omega))) (hCξ.l8 (fun d q => y1 d (by omega))).2.1 (fun s' h => ?_)
            by_cases e : s' = s
            · subst e
              exact ⟨x2.of (y3 _ (by omega)) (fun j _ => y4 _ (by omega)), y2⟩
            · obtain ⟨p1, p2⟩ := hP s' (by omega)
              exact ⟨p1.of (by rw [y3 _ (by omega), x3 _ (by omega), e83]) (fun j _ => by rw [y4 _ (by omega), x4 _ (by omega), e82]), p2.of (by rw [y3 _ (by omega), x3 _ (by omega), e83]) (fun j _ => by rw [y4 _ (by omega), x4 _ (by omega), e82])⟩)
          rw [show cS_ (chA A) (s + 4) = 2 by unfold cS_; exact if_neg (by omega)] at c2
          rw [or4 s s4]
          exact c2)
        rw [show cS_ (chA A) s = chA A by unfold cS_; exact if_pos (by omega)] at c1
        exact c1
      refine w_55_2 _ _ _ _ _ ⟨fun q => absurd q (nI_ge (a := s) (b := 4) (by omega) (by decide)), fun _ => ⟨fun a => ⟨fun b => body w 0 ?_ ?_, fun b => body w 1 ?_ ?_⟩, fun a => ⟨fun b => body 6 0 ?_ ?_, fun b => body 6 1 ?_ ?_⟩⟩⟩
      · unfold wS_; exact (if_pos ((bit1 s (by omega)).mp a)).symm
      · unfold tS_; exact ((bit2 s (by omega)).mp b).symm
      · unfold wS_; exact (if_pos ((bit1 s (by omega)).mp a)).symm
      · have : ¬ s / 2 % 2 = 0 := fun r => b ((bit2 s (by omega)).mpr r)
        unfold tS_; omega
      · unfold wS_; exact (if_neg (fun r => a ((bit1 s (by omega)).mpr r))).symm
      · unfold tS_; exact ((bit2 s (by omega)).mp b).symm
      · unfold wS_; exact (if_neg (fun r => a ((bit1 s (by omega)).mpr r))).symm
      · have : ¬ s / 2 % 2 = 0 := fun r => b ((bit2 s (by omega)).mpr r)
        unfold tS_; omega
  exact v_55 _ _ _ _ (lp 4 0 μ rfl hA hO hK (fun s' h => by omega))
