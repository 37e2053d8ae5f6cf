/-! ===== class: turnRound, makePlan ===== -/
theorem c_113 (n : Nat) (hn : n ≤ 120) {μ : wm_M} {Q : wm_M → Prop} (hk : ∀ ν, (∀ j, j < n → ν.1 74 j = μ.1 74 (n - 1 - j)) → (∀ d, d ≠ 74 → ν.1 d = μ.1 d) → Q ν) : wm_OkV 0 113 [.ref 69, .int (nI n)] μ Q := by
  have lp : ∀ k i ν, i + k = n / 2 → (∀ j, j < n → ν.1 74 j = if j < i ∨ n - i ≤ j then μ.1 74 (n - 1 - j) else μ.1 74 j) → (∀ d, d ≠ 74 → ν.1 d = μ.1 d) → wm_Wp 0 113 2 [.ref 69, .int (nI n), .int (nI i)] ν (fun w ν => w = none ∧ Q ν) := by
    intro k
    induction k with
    | zero =>
      intro i ν hi hj hF
      refine w_113_2 _ _ _ _ ⟨n2, ?_⟩
      rw [dv2 (by omega)]
      refine ⟨fun _ => w_113_43 _ _ ⟨rfl, hk ν (fun j hjn => ?_) hF⟩, fun q => absurd (nI_le (by omega) (by omega)) q⟩
      rw [hj j hjn]
      split
      · rfl
      · rw [show n - 1 - j = j by omega]
    | succ k ih =>
      intro i ν hi hj hF
      have ei : (nI n - (1 : Int32)) - nI i = nI (n - 1 - i) := by
        rw [show nI n - (1 : Int32) = nI (n - 1) from pk_sub (b := 1) (by omega), pk_sub (by omega)]
      have vi : vp_in (nI i) 121 := vp_in_nI (by omega) (by decide)
      have ve : vp_in (nI (n - 1 - i)) 121 := vp_in_nI (by omega) (by decide)
      refine w_113_2 _ _ _ _ ⟨n2, ?_⟩
      rw [dv2 (by omega), ei, nI_clamp (show n - 1 - i < 2 ^ 31 by omega)]
      refine ⟨fun q => absurd q (nI_ge (by omega) (by omega)), fun _ => ⟨ve, v_179_74 _ _ _ _ ⟨vi, vi, _, rfl, ve, ?_⟩⟩⟩
      rw [nI_clamp (show i < 2 ^ 31 by omega), nI_1]
      refine ih (i + 1) _ (by omega) (fun j hjn => ?_) (fun d q => by rw [si_ne _ _ _ q, si_ne _ _ _ q]; exact hF d q)
      by_cases e1 : j = n - 1 - i
      · subst e1
        rw [si_same, hj i (by omega), if_neg (by omega), if_pos (by omega), show n - 1 - (n - 1 - i) = i by omega]
      · rw [si_other _ _ e1]
        by_cases e2 : j = i
        · subst e2
          rw [si_same, hj _ (by omega), if_neg (by omega), if_pos (by omega)]
        · rw [si_other _ _ e2, hj j hjn]
          by_cases e3 : j < i ∨ n - i ≤ j
          · rw [if_pos e3, if_pos (by omega)]
          · rw [if_neg e3, if_neg (by omega)]
  exact v_113 _ _ _ (lp (n / 2) 0 μ (by omega) (fun j hj => by rw [if_neg (by omega)]) (fun _ _ => rfl))
/-- labels of a world, by a table, with a change, from a state at a tick; the plan's steps from its end back -/
noncomputable def LF (A : Nat → Nat) (w tab ch s0 t0 : Nat) : Nat → Nat := labF (stF A w tab) (whA A) ch s0 t0
noncomputable def plA (A : Nat → Nat) (w tab ch s0 t0 s : Nat) : List Nat := plW (stF A w tab) (whA A) ch (LF A w tab ch s0 t0) s0 121 s
theorem getD_app {L M : List Nat} {j : Nat} (h : j < L.length) : (L ++ M).getD j 0 = L.getD j 0 := by
  rw [List.getD_eq_getElem?_getD, List.getD_eq_getElem?_getD, List.getElem?_append_left h]
theorem getD_end {L : List Nat} {x : Nat} : (L ++ [x]).getD L.length 0 = x := by
  rw [List.getD_eq_getElem?_getD, List.getElem?_append_right (Nat.le_refl _)]
  simp
theorem c_112 {m : Nat} {A : Nat → Nat} (w tab ch s0 t0 c : Nat) (hw : w < 7) (hs0 : s0 < 864) (ht0 : t0 ≤ 120) (hc0 : 0 < ch) (hch : ch < 10000) (hx : s0 % 3 < A 2040) (hc : c < 36) {μ : wm_M} {Q : Int32 → wm_M → Prop} (hC : Chd m A w tab μ) (h0 : ∀ ν, F7 μ ν → wyA A w tab ch s0 t0 c = none → Q (-1) ν) (h1 : ∀ ν s T, F7 μ ν → wyA A w tab ch s0 t0 c = some (s, T) → (plA A w tab ch s0 t0 s).length ≤ 120 → (∀ j, j < (plA A w tab ch s0 t0 s).length → ν.1 74 j = nI ((plA A w tab ch s0 t0 s).getD ((plA A w tab ch s0 t0 s).length - 1 - j) 0)) → Q (nI (plA A w tab ch s0 t0 s).length) ν) : wm_OkI 0 112 [.ref 69, .int (nI s0), .int (nI t0), .int (nI ch), .int (nI c)] μ Q := by
  have isL : IsLab (stF A w tab) (whA A) ch s0 t0 (LF A w tab ch s0 t0) := labF_is hc0 hs0 ht0
  refine v_112 _ _ _ _ _ _ (c_107 w tab ch s0 t0 c hw hs0 ht0 hc0 hch hx hc hC (fun ν k1 k2 => ⟨fun _ => ⟨_, rfl, h0 ν k1 k2⟩, fun q => absurd rfl q⟩) (fun μ1 ℓ s T f1 hL h7 hwy hs hsc hT hsT hag => ⟨fun q => absurd q (nI_n1 hs), fun _ => w_112_19 _ _ _ _ ?_⟩))
  have h1 : ∀ ν, F7 μ ν → (plA A w tab ch s0 t0 s).length ≤ 120 → (∀ j, j < (plA A w tab ch s0 t0 s).length → ν.1 74 j = nI ((plA A w tab ch s0 t0 s).getD ((plA A w tab ch s0 t0 s).length - 1 - j) 0)) → Q (nI (plA A w tab ch s0 t0 s).length) ν := fun ν a b d => h1 ν s T a hwy b d
  have hag : AgT ℓ (LF A w tab ch s0 t0) T := hag
  have hsL : LF A w tab ch s0 t0 s ≤ T := (hag s hs).elim (fun q => by omega) (fun q => by omega)
  have lt0 : ∀ p, p < 864 → LF A w tab ch s0 t0 p ≤ t0 → p = s0 := fun p hp q => by
    have := lab_t0 isL ht0 _ p hp (Nat.le_refl _)
    exact this.2 (by omega)
  have hpl : plA A w tab ch s0 t0 s = plW (stF A w tab) (whA A) ch (LF A w tab ch s0 t0) s0 (120 + 1) s := rfl
  generalize plA A w tab ch s0 t0 s = P at *
  generalize LF A w tab ch s0 t0 = L at *
  have fin : ∀ (acc : List Nat) ν, P = acc ++ [] → acc.length ≤ 120 → (∀ j, j < acc.length → ν.1 74 j = nI (acc.getD j 0)) → (∀ d, d ≠ 74 → ν.1 d = μ1.1 d) → wm_Wp 0 112 102 [.ref 69, .null, .null, .null, .null, .null, .int (nI acc.length), .null, .null] ν (fun w ν => ∃ x, w = some (.int x) ∧ Q x ν) := fun acc ν hP hl hA hF => by
    rw [List.append_nil] at hP
    refine w_112_102 _ _ _ (c_113 acc.length hl (fun κ k1 k2 => ⟨_, rfl, ?_⟩))
    rw [← hP]
    refine h1 κ (fun d q => by rw [k2 d (by omega), hF d (by omega)]; exact f1 d q) (by rw [hP]; exact hl) (fun j hj => ?_)
    rw [hP] at hj ⊢
    rw [k1 j hj]
    exact hA _ (by omega)
  have lp : ∀ k i p (acc : List Nat) ν, i + k = 120 → p < 864 → L p ≤ T → L p ≤ t0 + k → P = acc ++ plW (stF A w tab) (whA A) ch L s0 (k + 1) p → acc.length ≤ i → (∀ j, j < acc.length → ν.1 74 j = nI (acc.getD j 0)) → (∀ d, d ≠ 74 → ν.1 d = μ1.1 d) → wm_Wp 0 112 25 [.ref 69, .int (nI s0), .null, .null, .null, .int (nI p), .int (nI acc.length), .int (nI i), .null] ν (fun w ν => ∃ x, w = some (.int x) ∧ Q x ν) := by
    intro k
    induction k with
    | zero =>
      intro i p acc ν hi hp hpT hpt hP hl hA hF
      have : i = 120 := by omega
      subst this
      have e := lt0 p hp (by omega)
      subst e
      rw [plW_s0] at hP
      exact w_112_25 _ _ _ _ _ _ ⟨fun _ => fin acc ν hP (by omega) hA hF, fun q => absurd (nI_le (Nat.le_refl 120) (by decide)) q⟩
    | succ k ih =>
      intro i p acc ν hi hp hpT hpt hP hl hA hF
      refine w_112_25 _ _ _ _ _ _ ⟨fun q => absurd q (nI_ge (a := i) (b := 120) (by omega) (by decide)), fun _ => ⟨fun q => ?_, fun q => ?_⟩⟩
      · have e := (nI_eq (by omega) (by omega)).mp q
        subst e
        rw [plW_s0] at hP
        exact fin acc ν hP (by omega) hA hF
      · have e : p ≠ s0 := fun r => q (by rw [r])
        have ne9 : L p ≠ 999 := by omega
        obtain ⟨v1, v2, v3⟩ := prv_ok hc0 isL hp e ne9
        have px := lab_x isL hx _ p hp (Nat.le_refl _) ne9
        have ep : ℓ p = L p := (hag p hp).elim id (fun q => by omega)
        have agp : ∀ r, r < 864 → (Fr (stF A w tab) (whA A) ch ℓ p r ↔ Fr (stF A w tab) (whA A) ch L p r) := fun r hr => fr_ag hc0 hag hp hr hpT
        have f7 : F7 μ ν := fun d z => by rw [hF d (by omega)]; exact f1 d z
        refine c_114 w tab ch p hw hp hc0 hch px (by omega) (hC.f7 f7) (fun r hr => by rw [hF 70 (by decide)]; exact hL r hr) (by rw [hF 69 (by decide)]; exact h7) ⟨_, v1, (agp _ v1).mpr v2⟩ (fun r hr fr hm => ⟨fun z => absurd z (nI_n1 hr), fun _ => ?_⟩)
        have er : prv (stF A w tab) (whA A) ch L p = r := lst_eq hr ((agp r hr).mp fr) (fun z hz fz => hm z hz ((agp z hz).mpr fz))
        rw [er] at v3
        have n24 : ¬ (24 : Int32) = 0 := by decide
        have n3 : ¬ (3 : Int32) = 0 := by decide
        have n8 : ¬ (8 : Int32) = 0 := by decide
        refine w_112_54 _ _ _ _ _ _ _ ⟨n24, n24, ?_⟩
        rw [show nI r / (24 : Int32) = nI (r / 24) from pk_div (d := 24) (by omega) (by decide) (by decide), show nI p / (24 : Int32) = nI (p / 24) from pk_div (d := 24) (by omega) (by decide) (by decide), show nI p - nI p / (3 : Int32) * (3 : Int32) = nI (p % 3) from pk_rem (d := 3) (by omega) (by decide) (by decide), show nI p / (3 : Int32) = nI (p / 3) from pk_div (d := 3) (by omega) (by decide) (by decide), show nI (p / 3) - nI (p / 3) / (8 : Int32) * (8 : Int32) = nI (p / 3 % 8) from pk_rem (d := 8) (by omega) (by decide) (by decide), show (10 : Int32) * nI (p / 3 % 8) + nI (p % 3) = nI (10 * (p / 3 % 8) + p % 3) by simp (disch := omega) only [nl, nI_add, pk_mul, pk_sub, pk_div, rm_n, nI_clamp, vi_, nI_leI, nI_ltI, nI_eq, nI_sb, nI_eqm, nI_meq, Nat.zero_add, Nat.add_zero], nI_clamp (show acc.length < 2 ^ 31 by omega), nI_1]
        refine ⟨fun z => w_112_92 _ _ _ _ _ _ ?_, fun z => ⟨n3, n8, n3, vp_in_nI (by omega) (by decide), w_112_92 _ _ _ _ _ _ ?_⟩⟩
        · have z := (nI_eq (by omega) (by omega)).mp z
          rw [nI_1]
          refine ih (i + 1) r acc ν (by omega) hr (by omega) (by omega) ?_ (by omega) hA hF
          rw [hP, plW_in e (by rw [er]; exact z), er]
        · have z : ¬ r / 24 = p / 24 := fun y => z (by rw [y])
          rw [nI_1, show acc.length + 1 = (acc ++ [10 * (p / 3 % 8) + p % 3]).length by simp]
          refine ih (i + 1) r (acc ++ [10 * (p / 3 % 8) + p % 3]) _ (by omega) hr (by omega) (by omega) ?_ (by simp; omega) (fun j hj => ?_) (fun d y => by rw [si_ne _ _ _ y]; exact hF d y)
          · rw [hP, plW_out e (by rw [er]; exact z), er]; simp
          · rw [List.length_append, List.length_singleton] at hj
            by_cases y : j = acc.length
            · subst y
              rw [si_same, getD_end]
            · rw [si_other _ _ y, getD_app (by omega)]
              exact hA j (by omega)
  exact lp 120 0 s [] μ1 rfl hs hsL (by omega) hpl (Nat.le_refl _) (fun j hj => by cases hj) (fun _ _ => rfl)
