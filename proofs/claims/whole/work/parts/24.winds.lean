/-! ===== the hour whose telling counts ===== -/
def ltd (f : Nat → Bool) : Nat → Option Nat
  | 0 => if f 0 = true then some 0 else none
  | h + 1 => if f (h + 1) = true then some (h + 1) else ltd f h
def lto (o : Option Nat) (g : Nat → Int32) (z : Int32) : Int32 := match o with
  | some k => g k
  | none => z
theorem ltd_le (f : Nat → Bool) : ∀ h k, ltd f h = some k → k ≤ h
  | 0, k, e => by
    unfold ltd at e
    split at e
    · cases e; exact Nat.le_refl _
    · cases e
  | h + 1, k, e => by
    unfold ltd at e
    split at e
    · cases e; exact Nat.le_refl _
    · exact Nat.le_succ_of_le (ltd_le f h k e)
/-- told, by the reference's row and by the class's -/
def tm_ (μ : wm_M) (w k : Nat) : Bool := !decide (μ.1 91 (240 + 12 * w + k) = 0)
def tc_ (μ : wm_M) (w k : Nat) : Bool := !decide (μ.1 6 (w * 12 + k) = -1)
theorem ix3 (c w h : Nat) : (nI c + nI 12 * nI w) + nI h = nI (c + 12 * w + h) := by rw [pk_mul, nI_add, nI_add]
theorem ix2 (w h : Nat) : nI w * nI 12 + nI h = nI (w * 12 + h) := by rw [pk_mul, nI_add]
theorem l_197 (w : Nat) (hw : w < 7) {μ : wm_M} {Q : Int32 → wm_M → Prop} : ∀ h, h < 12 → Q (lto (ltd (tm_ μ w) h) nI (-1)) μ → wm_Wp 0 197 2 [.ref 89, .int (nI w), .null, .int (nI h)] μ (fun v ν => ∃ x, v = some (.int x) ∧ Q x ν) := by
  intro h
  induction h with
  | zero =>
    intro hh hq
    have e3 : ((240 : Int32) + ((12 : Int32) * nI w)) + nI 0 = nI (240 + 12 * w + 0) := ix3 240 w 0
    have ec := nI_clamp (n := 240 + 12 * w + 0) (by omega)
    refine w_197_2 _ _ μ _ ⟨fun z => absurd z (nI_pos (by decide)), fun _ => ⟨by rw [e3]; exact vp_in_nI (by omega) (by decide), fun z => ?_, fun z => ?_⟩⟩
    · rw [e3, ec] at z
      have ht : tm_ μ w 0 = false := by simpa [tm_] using z
      refine w_197_2 _ _ μ _ ⟨fun _ => w_197_30 _ μ _ ⟨_, rfl, ?_⟩, fun y => absurd (by decide +kernel) y⟩
      simp only [ltd, ht, lto] at hq
      exact hq
    · rw [e3, ec] at z
      have ht : tm_ μ w 0 = true := by simpa [tm_] using z
      refine w_197_30 _ μ _ ⟨_, rfl, ?_⟩
      simp only [ltd, ht, lto, if_true] at hq
      exact hq
  | succ h ih =>
    intro hh hq
    have e3 : ((240 : Int32) + ((12 : Int32) * nI w)) + nI (h + 1) = nI (240 + 12 * w + (h + 1)) := ix3 240 w (h + 1)
    have ec := nI_clamp (n := 240 + 12 * w + (h + 1)) (by omega)
    refine w_197_2 _ _ μ _ ⟨fun z => absurd z (nI_pos (by omega)), fun _ => ⟨by rw [e3]; exact vp_in_nI (by omega) (by decide), fun z => ?_, fun z => ?_⟩⟩
    · rw [e3, ec] at z
      have ht : tm_ μ w (h + 1) = false := by simp [tm_, z]
      rw [pk_m1 h]
      refine ih (by omega) ?_
      simp only [ltd, ht] at hq
      exact hq
    · rw [e3, ec] at z
      have ht : tm_ μ w (h + 1) = true := by simpa [tm_] using z
      refine w_197_30 _ μ _ ⟨_, rfl, ?_⟩
      simp only [ltd, ht, lto, if_true] at hq
      exact hq
theorem s_197 (w h : Nat) (hw : w < 7) (hh : h < 12) {μ : wm_M} {Q : Int32 → wm_M → Prop} (hq : Q (lto (ltd (tm_ μ w) h) nI (-1)) μ) : wm_OkI 0 197 [.ref 89, .int (nI w), .int (nI h)] μ Q := v_197 _ _ μ _ (l_197 w hw h hh hq)
/-- the class's: whether an hour is told, and the place of the last that is -/
theorem s_69 (w h : Nat) (hw : w < 7) (hh : h < 12) {μ : wm_M} {Q : Int32 → wm_M → Prop} (hq : Q (bI (tc_ μ w h = true)) μ) : wm_OkI 0 69 [.ref 2, .int (nI w), .int (nI h)] μ Q := by
  have e3 : (nI w * (12 : Int32)) + nI h = nI (w * 12 + h) := ix2 w h
  have ec := nI_clamp (n := w * 12 + h) (by omega)
  refine v_69 _ _ μ _ ⟨by rw [e3]; exact vp_in_nI (by omega) (by decide), fun z => w_69_19 μ _ ⟨z01, _, rfl, ?_⟩, fun z => ⟨o01, _, rfl, ?_⟩⟩
  · rw [e3, ec] at z
    rw [bI_f (by simp [tc_, z])] at hq; exact hq
  · rw [e3, ec] at z
    rw [bI_t (by simpa [tc_] using z)] at hq; exact hq
theorem l_70 (w : Nat) (hw : w < 7) {μ : wm_M} {Q : Int32 → wm_M → Prop} : ∀ h, h < 12 → Q (lto (ltd (tc_ μ w) h) (fun k => nI (w * 12 + k)) (-1)) μ → wm_Wp 0 70 2 [.ref 2, .int (nI w), .null, .int (nI h)] μ (fun v ν => ∃ x, v = some (.int x) ∧ Q x ν) := by
  intro h
  induction h with
  | zero =>
    intro hh hq
    refine w_70_2 _ _ μ _ ⟨fun z => absurd z (nI_pos (by decide)), fun _ => s_69 w 0 hw hh ⟨fun z => w_70_22 _ _ μ _ ?_, fun z => ⟨_, rfl, ?_⟩⟩⟩
    · have ht : tc_ μ w 0 = false := by simpa using bI_0.mp z
      refine w_70_2 _ _ μ _ ⟨fun _ => w_70_28 μ _ ⟨_, rfl, ?_⟩, fun y => absurd (by decide +kernel) y⟩
      simp only [ltd, ht, lto] at hq
      exact hq
    · have ht := nz z
      simp only [ltd, ht, lto, if_true] at hq
      rw [show (nI w * (12 : Int32)) + nI 0 = nI (w * 12 + 0) from ix2 w 0]; exact hq
  | succ h ih =>
    intro hh hq
    refine w_70_2 _ _ μ _ ⟨fun z => absurd z (nI_pos (by omega)), fun _ => s_69 w (h + 1) hw hh ⟨fun z => w_70_22 _ _ μ _ ?_, fun z => ⟨_, rfl, ?_⟩⟩⟩
    · have ht : tc_ μ w (h + 1) = false := by simpa using bI_0.mp z
      rw [pk_m1 h]
      refine ih (by omega) ?_
      simp only [ltd, ht] at hq
      exact hq
    · have ht := nz z
      simp only [ltd, ht, lto, if_true] at hq
      rw [show (nI w * (12 : Int32)) + nI (h + 1) = nI (w * 12 + (h + 1)) from ix2 w (h + 1)]; exact hq
theorem s_70 (w h : Nat) (hw : w < 7) (hh : h < 12) {μ : wm_M} {Q : Int32 → wm_M → Prop} (hq : Q (lto (ltd (tc_ μ w) h) (fun k => nI (w * 12 + k)) (-1)) μ) : wm_OkI 0 70 [.ref 2, .int (nI w), .int (nI h)] μ Q := v_70 _ _ μ _ (l_70 w hw h hh hq)
