/-! ===== the reference: all rules laid, all steps laid, the best end in a cell ===== -/
def kS (c i : Nat) : Bool := !(Nat.beq c 89 && (Nat.ble 5 i && Nat.ble i 45)) && !(Nat.ble 93 c && Nat.ble c 109)
theorem kS_L {c i : Nat} (h : kS c i = true) : kL c i = true := by
  unfold kS at h
  unfold kL kW
  simp only [Bool.and_eq_true, Bool.not_eq_true', Bool.and_eq_false_iff, Nat.ble_eq, Bool.eq_false_iff, ne_eq, Nat.beq_eq] at h ⊢
  omega
theorem kS_of {c i : Nat} (h1 : c = 89 → i < 5 ∨ 45 < i) (h2 : ¬ (93 ≤ c ∧ c ≤ 109)) : kS c i = true := by
  unfold kS
  simp only [Bool.and_eq_true, Bool.not_eq_true', Bool.and_eq_false_iff, Nat.ble_eq, Bool.eq_false_iff, ne_eq, Nat.beq_eq]
  omega
def LR (A : Nat → Nat) (h0 B : Nat) (ν : wm_M) : Prop := ∀ hr c k, h0 ≤ hr → hr < 12 → c < 36 → k < A 2040 → 3 * (36 * hr + c) + k < B → ν.1 93 (3 * (36 * hr + c) + k) = sayV A 0 (A (449 + k)) c hr ∧ ν.1 94 (3 * (36 * hr + c) + k) = sayV A 1 (A (449 + k)) c hr
theorem LR_s {A : Nat → Nat} {h0 hr c k : Nat} {ν κ : wm_M} (h3 : A 2040 ≤ 3) (h : LR A h0 (3 * (36 * hr + c) + k) ν) (hc : c < 36) (hk : k < A 2040) (k1 : κ.1 93 (3 * (36 * hr + c) + k) = sayV A 0 (kiR A k) c hr) (k2 : κ.1 94 (3 * (36 * hr + c) + k) = sayV A 1 (kiR A k) c hr) (k3 : ∀ i, i ≠ 3 * (36 * hr + c) + k → κ.1 93 i = ν.1 93 i ∧ κ.1 94 i = ν.1 94 i) : LR A h0 (3 * (36 * hr + c) + (k + 1)) κ := by
  intro hr' c' k' a b d e f
  by_cases q : 3 * (36 * hr' + c') + k' = 3 * (36 * hr + c) + k
  · have e1 : c' = c := by omega
    have e2 : hr' = hr := by omega
    have e3 : k' = k := by omega
    subst e1; subst e2; subst e3
    rw [kiR_of e] at k1 k2
    exact ⟨k1, k2⟩
  · rw [(k3 _ q).1, (k3 _ q).2]
    exact h hr' c' k' a b d e (by omega)
theorem m_246 {m : Nat} {A : Nat → Nat} (t : Nat) (ht : t < 2 ^ 31) {μ : wm_M} {Q : wm_M → Prop} (hB : BA m A) (hV : RV A) (hM : RM 91 A μ) (hk : ∀ ν, LR A (hq t) 1296 ν → Sm kL μ ν → Q ν) : wm_OkV 0 246 [.ref 89, .int (nI t)] μ Q := by
  have b3 := hB.sails
  have h12 := hq_lt t
  have hMs : ∀ {ν : wm_M}, Sm kL μ ν → RM 91 A ν := fun hS j hj => (hS 91 j rfl).trans (hM j hj)
  have inner : ∀ hr c, hr < 12 → c < 36 → ∀ j k ν, k + j = A 2040 → LR A (hq t) (3 * (36 * hr + c) + k) ν → Sm kL μ ν → (∀ κ, LR A (hq t) (3 * (36 * hr + (c + 1))) κ → Sm kL μ κ → wm_Wp 0 246 46 [.ref 89, .null, .int (nI hr), .int (nI c), .null] κ (fun w ν => w = none ∧ Q ν)) → wm_Wp 0 246 22 [.ref 89, .null, .int (nI hr), .int (nI c), .int (nI k)] ν (fun w ν => w = none ∧ Q ν) := by
    intro hr c hh hc j
    induction j with
    | zero =>
      intro k ν hj hL hS w
      refine w_246_22 _ _ _ _ _ (s_188 0 (by decide) ?_)
      rw [show ν.1 91 (2040 + 0) = nI (A 2040) from hMs hS 2040 (by decide)]
      refine ⟨fun _ => w ν (fun hr' c' k' a b d e f => hL hr' c' k' a b d e (by omega)) hS, fun q => absurd (nI_le (by omega) (by omega)) q⟩
    | succ j ih =>
      intro k ν hj hL hS w
      refine w_246_22 _ _ _ _ _ (s_188 0 (by decide) ?_)
      rw [show ν.1 91 (2040 + 0) = nI (A 2040) from hMs hS 2040 (by decide)]
      refine ⟨fun q => absurd q (nI_ge (by omega) (by omega)), fun _ => m_245 hr c k hh hc (by omega) hB hV (hMs hS) (fun κ k1 k2 k3 k4 => ?_)⟩
      rw [nI_1]
      exact ih (k + 1) κ (by omega) (LR_s (by omega) hL hc (by omega) k1 k2 k3) (hS.tr k4) w
  have mid : ∀ hr, hr < 12 → ∀ j c ν, c + j = 36 → LR A (hq t) (3 * (36 * hr + c)) ν → Sm kL μ ν → (∀ κ, LR A (hq t) (3 * (36 * (hr + 1))) κ → Sm kL μ κ → wm_Wp 0 246 52 [.ref 89, .null, .int (nI hr), .null, .null] κ (fun w ν => w = none ∧ Q ν)) → wm_Wp 0 246 13 [.ref 89, .null, .int (nI hr), .int (nI c), .null] ν (fun w ν => w = none ∧ Q ν) := by
    intro hr hh j
    induction j with
    | zero =>
      intro c ν hj hL hS w
      have : c = 36 := by omega
      subst this
      exact w_246_13 _ _ _ _ ⟨fun _ => w ν (fun hr' c' k' a b d e f => hL hr' c' k' a b d e (by omega)) hS, fun q => absurd (nI_le (Nat.le_refl 36) (by decide)) q⟩
    | succ j ih =>
      intro c ν hj hL hS w
      refine w_246_13 _ _ _ _ ⟨fun q => absurd q (nI_ge (a := c) (b := 36) (by omega) (by decide)), fun _ => inner hr c hh (by omega) (A 2040) 0 ν (by omega) hL hS (fun κ k1 k2 => w_246_46 _ _ _ _ ?_)⟩
      rw [nI_1]
      exact ih (c + 1) κ (by omega) k1 k2 w
  have outer : ∀ j hr ν, hr + j = 12 → LR A (hq t) (3 * (36 * hr)) ν → Sm kL μ ν → wm_Wp 0 246 5 [.ref 89, .null, .int (nI hr), .null, .null] ν (fun w ν => w = none ∧ Q ν) := by
    intro j
    induction j with
    | zero =>
      intro hr ν hj hL hS
      have : hr = 12 := by omega
      subst this
      exact w_246_5 _ _ _ ⟨fun _ => w_246_58 _ _ ⟨rfl, hk ν hL hS⟩, fun q => absurd (nI_le (Nat.le_refl 12) (by decide)) q⟩
    | succ j ih =>
      intro hr ν hj hL hS
      refine w_246_5 _ _ _ ⟨fun q => absurd q (nI_ge (a := hr) (b := 12) (by omega) (by decide)), fun _ => mid hr (by omega) 36 0 ν rfl hL hS (fun κ k1 k2 => w_246_52 _ _ _ ?_)⟩
      rw [nI_1]
      exact ih (hr + 1) κ (by omega) k1 k2
  exact v_246 _ _ _ (s_192 t ht (outer (12 - hq t) (hq t) μ (by omega) (fun hr c k a b d e f => by omega) (Sm.rf _ _)))
/-- the ticks of a step from a state; no sail, no step -/
def stG (A : Nat → Nat) (w tab s hr : Nat) : Nat := if s % 3 < A 2040 then stF A w tab s hr else 0
theorem stG_le (A : Nat → Nat) (w tab s hr : Nat) : stG A w tab s hr ≤ 140 := by
  unfold stG
  split
  · exact stA_le _ _ _ _ _ _ _
  · omega
def LSt (A : Nat → Nat) (w tab h0 B : Nat) (ν : wm_M) : Prop := ∀ hr s, h0 ≤ hr → hr < 12 → s < 864 → 864 * hr + s < B → ν.1 95 (864 * hr + s) = nI (stG A w tab s hr)
theorem st_un (s : Nat) : st_ (s / 24) (s / 3 % 8) (s % 3) = s := by unfold st_; omega
theorem m_250 {m : Nat} {A : Nat → Nat} (w tab t : Nat) (hw : w < 7) (htb : tab < 2) (ht : t < 2 ^ 31) {μ : wm_M} {Q : wm_M → Prop} (hB : BA m A) (hX : VX A) (hM : RM 91 A μ) (hL : LR A (hq t) 1296 μ) (hk : ∀ ν, LSt A w tab (hq t) 10368 ν → (∀ d, d ≠ 95 → ν.1 d = μ.1 d) → Q ν) : wm_OkV 0 250 [.ref 89, .int (nI w), .int (nI tab), .int (nI t)] μ Q := by
  have b3 := hB.sails
  have h12 := hq_lt t
  have inner : ∀ hr, hq t ≤ hr → hr < 12 → ∀ j s ν, s + j = 864 → LSt A w tab (hq t) (864 * hr + s) ν → (∀ d, d ≠ 95 → ν.1 d = μ.1 d) → (∀ κ, LSt A w tab (hq t) (864 * (hr + 1)) κ → (∀ d, d ≠ 95 → κ.1 d = μ.1 d) → wm_Wp 0 250 54 [.ref 89, .int (nI w), .int (nI tab), .null, .int (nI hr), .null] κ (fun w ν => w = none ∧ Q ν)) → wm_Wp 0 250 16 [.ref 89, .int (nI w), .int (nI tab), .null, .int (nI hr), .int (nI s)] ν (fun w ν => w = none ∧ Q ν) := by
    intro hr h0 hh j
    induction j with
    | zero =>
      intro s ν hj hS hF c
      have : s = 864 := by omega
      subst this
      exact w_250_16 _ _ _ _ _ _ ⟨fun _ => c ν (fun hr' s' a b d e => hS hr' s' a b d (by omega)) hF, fun q => absurd (nI_le (Nat.le_refl 864) (by decide)) q⟩
    | succ j ih =>
      intro s ν hj hS hF c
      have hMν : RM 91 A ν := hM.fr (hF 91 (by decide))
      have eq : ((864 : Int32) * nI hr) + nI s = nI (864 * hr + s) := by simp (disch := omega) only [nl, nI_add, pk_mul, pk_sub, pk_div, rm_n, nI_clamp, vi_, nI_leI, nI_ltI, nI_eq, nI_sb, nI_eqm, nI_meq, Nat.zero_add, Nat.add_zero]
      have fin : ∀ x : Nat, x = stG A w tab s hr → (vp_in (((864 : Int32) * nI hr) + nI s) 10368 ∧ wm_Wp 0 250 16 [.ref 89, .int (nI w), .int (nI tab), .null, .int (nI hr), .int (nI s + (1 : Int32))] (wm_si ν 95 ((((864 : Int32) * nI hr) + nI s)).toNatClampNeg (nI x)) (fun w ν => w = none ∧ Q ν)) := fun x hx => by
        rw [eq, nI_clamp (show 864 * hr + s < 2 ^ 31 by omega), nI_1]
        refine ⟨vp_in_nI (by omega) (by decide), ih (s + 1) _ (by omega) (fun hr' s' a b d e => ?_) (fun d q => by rw [si_ne _ _ _ q]; exact hF d q) c⟩
        by_cases q : 864 * hr' + s' = 864 * hr + s
        · have e1 : hr' = hr := by omega
          have e2 : s' = s := by omega
          subst e1; subst e2
          rw [si_same, hx]
        · rw [si_other _ _ q]; exact hS hr' s' a b d (by omega)
      refine w_250_16 _ _ _ _ _ _ ⟨fun q => absurd q (nI_ge (a := s) (b := 864) (by omega) (by decide)), fun _ => ?_⟩
      have key := m_249 (Q := fun r2 μ1 => (vp_in (((864 : Int32) * nI hr) + nI s) 10368 ∧ wm_Wp 0 250 16 [.ref 89, .int (nI w), .int (nI tab), .null, .int (nI hr), .int (nI s + (1 : Int32))] (wm_si μ1 95 ((((864 : Int32) * nI hr) + nI s)).toNatClampNeg r2) (fun w ν => w = none ∧ Q ν))) w tab (s / 24) (s / 3 % 8) (s % 3) hr hw htb (by omega) (by omega) (by omega) hh hB hX hMν (fun q => by rw [hF 94 (by decide)]; exact (hL hr (s / 24) (s % 3) h0 hh (by omega) q (by omega)).2) (fun q r => by rw [hF 93 (by decide)]; exact (hL hr _ (s % 3) h0 hh r q (by omega)).1) (fun q => fin _ (by unfold stG; exact (if_pos q).symm)) (fun q => fin 0 (by unfold stG; exact (if_neg q).symm))
      rw [st_un] at key
      exact key
  have outer : ∀ j hr ν, hr + j = 12 → hq t ≤ hr → LSt A w tab (hq t) (864 * hr) ν → (∀ d, d ≠ 95 → ν.1 d = μ.1 d) → wm_Wp 0 250 6 [.ref 89, .int (nI w), .int (nI tab), .null, .int (nI hr), .null] ν (fun w ν => w = none ∧ Q ν) := by
    intro j
    induction j with
    | zero =>
      intro hr ν hj h0 hS hF
      have : hr = 12 := by omega
      subst this
      exact w_250_6 _ _ _ _ _ ⟨fun _ => w_250_60 _ _ ⟨rfl, hk ν hS hF⟩, fun q => absurd (nI_le (Nat.le_refl 12) (by decide)) q⟩
    | succ j ih =>
      intro hr ν hj h0 hS hF
      refine w_250_6 _ _ _ _ _ ⟨fun q => absurd q (nI_ge (a := hr) (b := 12) (by omega) (by decide)), fun _ => inner hr h0 (by omega) 864 0 ν rfl hS hF (fun κ k1 k2 => w_250_54 _ _ _ _ _ ?_)⟩
      rw [nI_1]
      exact ih (hr + 1) κ (by omega) (by omega) k1 k2
  exact v_250 _ _ _ _ _ (s_192 t ht (outer (12 - hq t) (hq t) μ (by omega) (Nat.le_refl _) (fun hr s a b d e => by omega) (fun _ _ => rfl)))
/-- labels as the reference holds them -/
def LabM (ℓ : Nat → Nat) (μ : wm_M) : Prop := ∀ s, s < 864 → ℓ s ≤ 999 ∧ μ.1 96 s = if ℓ s = 999 then -1 else nI (ℓ s)
theorem eo_in {ℓ : Nat → Nat} {c s : Nat} : ∀ i, eo ℓ c i = some s → 24 * c ≤ s ∧ s < 24 * c + i ∧ ℓ s ≠ 999
  | 0, h => by cases h
  | i + 1, h => by
    unfold eo at h
    split at h
    · have := eo_in i h; exact ⟨this.1, by omega, this.2.2⟩
    · rename_i q
      split at h
      · cases h; exact ⟨by omega, by omega, q⟩
      · rename_i j hj
        have r := eo_in i hj
        split at h
        · cases h; exact ⟨by omega, by omega, q⟩
        · cases h; exact ⟨r.1, by omega, r.2.2⟩
theorem m_254 {ℓ : Nat → Nat} (c : Nat) (hc : c < 36) {μ : wm_M} {Q : Int32 → wm_M → Prop} (hL : LabM ℓ μ) (hk : Q (lto (eo ℓ c 24) nI (-1)) μ) : wm_OkI 0 254 [.ref 89, .int (nI c)] μ Q := by
  have lp : ∀ j i, i + j = 24 → wm_Wp 0 254 7 [.ref 89, .int (nI c), .int (lto (eo ℓ c i) nI (-1)), .int (nI (24 * c + i))] μ (fun w κ => ∃ x, w = some (.int x) ∧ Q x κ) := by
    intro j
    induction j with
    | zero =>
      intro i hi
      have : i = 24 := by omega
      subst this
      refine w_254_7 _ _ _ _ _ ?_
      rw [show (24 : Int32) * (nI c + (1 : Int32)) = nI (24 * (c + 1)) by simp (disch := omega) only [nl, nI_add, pk_mul, pk_sub, pk_div, rm_n, nI_clamp, vi_, nI_leI, nI_ltI, nI_eq, nI_sb, nI_eqm, nI_meq, Nat.zero_add, Nat.add_zero]]
      exact ⟨fun _ => w_254_55 _ _ _ ⟨_, rfl, hk⟩, fun q => absurd (nI_le (by omega) (by omega)) q⟩
    | succ j ih =>
      intro i hi
      have hs : 24 * c + i < 864 := by omega
      obtain ⟨l1, l2⟩ := hL _ hs
      have vs : vp_in (nI (24 * c + i)) 864 := vp_in_nI hs (by decide)
      have go : ∀ x, x = lto (eo ℓ c (i + 1)) nI (-1) → wm_Wp 0 254 49 [.ref 89, .int (nI c), .int x, .int (nI (24 * c + i))] μ (fun w κ => ∃ x, w = some (.int x) ∧ Q x κ) := fun x hx => by
        refine w_254_49 _ _ _ _ _ ?_
        rw [nI_1, hx]
        exact ih (i + 1) (by omega)
      refine w_254_7 _ _ _ _ _ ?_
      rw [show (24 : Int32) * (nI c + (1 : Int32)) = nI (24 * (c + 1)) by simp (disch := omega) only [nl, nI_add, pk_mul, pk_sub, pk_div, rm_n, nI_clamp, vi_, nI_leI, nI_ltI, nI_eq, nI_sb, nI_eqm, nI_meq, Nat.zero_add, Nat.add_zero], nI_clamp (show 24 * c + i < 2 ^ 31 by omega), l2]
      refine ⟨fun q => absurd q (nI_ge (by omega) (by omega)), fun _ => ⟨vs, ?_⟩⟩
      by_cases e : ℓ (24 * c + i) = 999
      · rw [if_pos e]
        refine ⟨fun _ => go _ ?_, fun q => absurd rfl q⟩
        have u : eo ℓ c (i + 1) = eo ℓ c i := by
          conv => lhs; unfold eo
          rw [if_pos e]
        rw [u]
      · rw [if_neg e]
        refine ⟨fun q => absurd q.symm (fun q => (nI_meq (b := 1) (by omega) (by decide) (by decide)).mp q), fun _ => ?_⟩
        cases ho : eo ℓ c i with
        | none =>
          refine ⟨fun _ => w_254_47 _ _ _ _ (go _ ?_), fun q => absurd rfl q⟩
          unfold eo
          rw [if_neg e, ho]
          rfl
        | some s =>
          obtain ⟨r1, r2, r3⟩ := eo_in i ho
          obtain ⟨p1, p2⟩ := hL s (by omega)
          rw [if_neg r3] at p2
          refine ⟨fun q => absurd q.symm (fun q => (nI_meq (a := s) (b := 1) (by omega) (by decide) (by decide)).mp q), fun _ => ⟨vs, vp_in_nI (n := s) (by omega) (by decide), ?_⟩⟩
          rw [show lto (some s) nI (-1) = nI s from rfl, nI_clamp (show s < 2 ^ 31 by omega), p2]
          refine ⟨fun q => go _ ?_, fun q => w_254_47 _ _ _ _ (go _ ?_)⟩
          · have q := (nI_leI (by omega) (by omega)).mp q
            unfold eo
            rw [if_neg e, ho]
            show nI s = lto (if ℓ (24 * c + i) < ℓ s then some (24 * c + i) else some s) nI (-1)
            rw [if_neg (by omega)]; rfl
          · have q : ¬ ℓ s ≤ ℓ (24 * c + i) := fun r => q ((nI_leI (by omega) (by omega)).mpr r)
            unfold eo
            rw [if_neg e, ho]
            show nI (24 * c + i) = lto (if ℓ (24 * c + i) < ℓ s then some (24 * c + i) else some s) nI (-1)
            rw [if_pos (by omega)]; rfl
  refine v_254 _ _ _ ?_
  rw [show (24 : Int32) * nI c = nI (24 * c + 0) by simp (disch := omega) only [nl, nI_add, pk_mul, pk_sub, pk_div, rm_n, nI_clamp, vi_, nI_leI, nI_ltI, nI_eq, nI_sb, nI_eqm, nI_meq, Nat.zero_add, Nat.add_zero]]
  exact lp 24 0 rfl
