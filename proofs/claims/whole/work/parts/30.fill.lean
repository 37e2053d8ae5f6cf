/-! ===== Arrays.fill of int rows ===== -/
def fl (f : Nat → Int32) (i : Nat) (v : Int32) : Nat → Int32 := fun j => if j < i then v else f j
theorem fl_0 (f : Nat → Int32) (v : Int32) : fl f 0 v = f := by funext j; simp [fl]
theorem fl_s (f : Nat → Int32) (i : Nat) (v : Int32) : upd (fl f i v) i v = fl f (i + 1) v := by
  funext j
  unfold upd fl
  by_cases h : j = i
  · rw [if_pos h, if_pos (by omega)]
  · rw [if_neg h]
    by_cases h2 : j < i
    · rw [if_pos h2, if_pos (by omega)]
    · rw [if_neg h2, if_neg (by omega)]
theorem sr_self (μ : wm_M) (c : Nat) : wm_sr μ c (μ.1 c) = μ := by
  have e : va_up μ.1 c (μ.1 c) = μ.1 := by
    funext k
    by_cases h : k = c
    · rw [h, wm_up_eq]
    · rw [wm_up_ne h]
  unfold wm_sr
  rw [e]
theorem si_sr (μ : wm_M) (c i : Nat) (g : Nat → Int32) (x : Int32) : wm_si (wm_sr μ c g) c i x = wm_sr μ c (upd g i x) := by
  unfold wm_si wm_sr
  simp only [wm_up_eq, bx_uu]
theorem l_343_85 (v : Int32) {μ : wm_M} {Q : wm_M → Prop} (hq : Q (wm_sr μ 85 (fl (μ.1 85) 12 v))) : ∀ k i : Nat, i + k = 12 → wm_Wp 0 343 5 [.ref 85, .int v, .int (nI i), .int (Int32.ofNat 12)] (wm_sr μ 85 (fl (μ.1 85) i v)) (fun w ν => w = none ∧ Q ν) := by
  intro k
  induction k with
  | zero =>
    intro i hi
    have e : i = 12 := by omega
    subst e
    exact w_343_5_85 _ _ _ _ _ ⟨fun _ => w_343_20_85 _ _ ⟨rfl, hq⟩, fun z => absurd (nI_le (Nat.le_refl _) (by decide)) z⟩
  | succ k ih =>
    intro i hi
    refine w_343_5_85 _ _ _ _ _ ⟨fun z => absurd z (nI_ge (a := i) (b := 12) (by omega) (by decide)), fun _ => ⟨vp_in_nI (by omega) (by decide), ?_⟩⟩
    rw [nI_clamp (show i < 2 ^ 31 by omega), si_sr, fl_s, nI_1 i]
    exact ih (i + 1) (by omega)
theorem s_343_85 (v : Int32) {μ : wm_M} {Q : wm_M → Prop} (hq : Q (wm_sr μ 85 (fl (μ.1 85) 12 v))) : wm_OkV 0 343 [.ref 85, .int v] μ Q := by
  refine v_343_85 v μ _ ?_
  have h := l_343_85 v hq 12 0 (by omega)
  rw [fl_0, sr_self] at h
  exact h
theorem l_343_70 (v : Int32) {μ : wm_M} {Q : wm_M → Prop} (hq : Q (wm_sr μ 70 (fl (μ.1 70) 864 v))) : ∀ k i : Nat, i + k = 864 → wm_Wp 0 343 5 [.ref 70, .int v, .int (nI i), .int (Int32.ofNat 864)] (wm_sr μ 70 (fl (μ.1 70) i v)) (fun w ν => w = none ∧ Q ν) := by
  intro k
  induction k with
  | zero =>
    intro i hi
    have e : i = 864 := by omega
    subst e
    exact w_343_5_70 _ _ _ _ _ ⟨fun _ => w_343_20_70 _ _ ⟨rfl, hq⟩, fun z => absurd (nI_le (Nat.le_refl _) (by decide)) z⟩
  | succ k ih =>
    intro i hi
    refine w_343_5_70 _ _ _ _ _ ⟨fun z => absurd z (nI_ge (a := i) (b := 864) (by omega) (by decide)), fun _ => ⟨vp_in_nI (by omega) (by decide), ?_⟩⟩
    rw [nI_clamp (show i < 2 ^ 31 by omega), si_sr, fl_s, nI_1 i]
    exact ih (i + 1) (by omega)
theorem s_343_70 (v : Int32) {μ : wm_M} {Q : wm_M → Prop} (hq : Q (wm_sr μ 70 (fl (μ.1 70) 864 v))) : wm_OkV 0 343 [.ref 70, .int v] μ Q := by
  refine v_343_70 v μ _ ?_
  have h := l_343_70 v hq 864 0 (by omega)
  rw [fl_0, sr_self] at h
  exact h
theorem l_343_73 (v : Int32) {μ : wm_M} {Q : wm_M → Prop} (hq : Q (wm_sr μ 73 (fl (μ.1 73) 121 v))) : ∀ k i : Nat, i + k = 121 → wm_Wp 0 343 5 [.ref 73, .int v, .int (nI i), .int (Int32.ofNat 121)] (wm_sr μ 73 (fl (μ.1 73) i v)) (fun w ν => w = none ∧ Q ν) := by
  intro k
  induction k with
  | zero =>
    intro i hi
    have e : i = 121 := by omega
    subst e
    exact w_343_5_73 _ _ _ _ _ ⟨fun _ => w_343_20_73 _ _ ⟨rfl, hq⟩, fun z => absurd (nI_le (Nat.le_refl _) (by decide)) z⟩
  | succ k ih =>
    intro i hi
    refine w_343_5_73 _ _ _ _ _ ⟨fun z => absurd z (nI_ge (a := i) (b := 121) (by omega) (by decide)), fun _ => ⟨vp_in_nI (by omega) (by decide), ?_⟩⟩
    rw [nI_clamp (show i < 2 ^ 31 by omega), si_sr, fl_s, nI_1 i]
    exact ih (i + 1) (by omega)
theorem s_343_73 (v : Int32) {μ : wm_M} {Q : wm_M → Prop} (hq : Q (wm_sr μ 73 (fl (μ.1 73) 121 v))) : wm_OkV 0 343 [.ref 73, .int v] μ Q := by
  refine v_343_73 v μ _ ?_
  have h := l_343_73 v hq 121 0 (by omega)
  rw [fl_0, sr_self] at h
  exact h
