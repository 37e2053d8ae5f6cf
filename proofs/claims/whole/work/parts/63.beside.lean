/-! ===== the cell beside ===== -/
theorem bs_r : ∀ r, r < 8 → ((0 ≤ nI r + (-1 : Int32) ∧ nI r + (-1 : Int32) ≤ 5) ↔ (1 ≤ r ∧ r ≤ 6)) := by decide +kernel
def bsI (c h : Nat) : Int32 := if bsA c h = 36 then -1 else nI (bsA c h)
theorem bs_fin {r k : Nat} (hr : r < 8) (hk : k < 8) : (1 ≤ r ∧ r ≤ 6 ∧ 1 ≤ k ∧ k ≤ 6) → (nI r + (-1 : Int32)) * (6 : Int32) + (nI k + (-1 : Int32)) = nI (6 * (r - 1) + (k - 1)) ∧ (6 : Int32) * (nI r + (-1 : Int32)) + (nI k + (-1 : Int32)) = nI (6 * (r - 1) + (k - 1)) := by
  intro h
  have e1 : nI r + (-1 : Int32) = nI (r - 1) := nI_sb (b := 1) (by omega)
  have e2 : nI k + (-1 : Int32) = nI (k - 1) := nI_sb (b := 1) (by omega)
  rw [e1, e2]
  refine ⟨?_, ?_⟩
  · rw [show nI (r - 1) * (6 : Int32) + nI (k - 1) = nI ((r - 1) * 6 + (k - 1)) from ix2' 6 _ _, Nat.mul_comm]
  · rw [show (6 : Int32) * nI (r - 1) = nI (6 * (r - 1)) from pk_mul 6 _, nI_add]
theorem of0 (r : Nat) : nI r = nI (r + 1) + (-1 : Int32) := (pk_m1 r).symm
theorem of1 (r : Nat) : nI r + (1 : Int32) = nI (r + 2) + (-1 : Int32) := by rw [nI_1]; exact (pk_m1 (r + 1)).symm
theorem of00 (r : Nat) : nI r + (0 : Int32) = nI (r + 1) + (-1 : Int32) := by rw [Int32.add_zero]; exact (pk_m1 r).symm
theorem c_182t {r k : Nat} (hr : r < 8) (hk : k < 8) {c h : Nat} (e : bsA c h = if 1 ≤ r ∧ r ≤ 6 ∧ 1 ≤ k ∧ k ≤ 6 then 6 * (r - 1) + (k - 1) else 36) {μ : wm_M} {Q : Int32 → wm_M → Prop} (hq : Q (bsI c h) μ) : wm_Wp 0 182 64 [.null, .null, .int (nI r + (-1)), .int (nI k + (-1)), .null] μ (fun w ν => ∃ x, w = some (.int x) ∧ Q x ν) := by
  have no : ¬ (1 ≤ r ∧ r ≤ 6 ∧ 1 ≤ k ∧ k ≤ 6) → Q (-1) μ := fun q => by
    rw [if_neg q] at e
    have : bsI c h = -1 := if_pos e
    rw [this] at hq; exact hq
  refine w_182_64 _ _ _ _ (s_178 ⟨fun z => w_182_86 _ _ _ _ ⟨fun _ => w_182_103 _ _ ⟨_, rfl, no (fun q => bI_0.mp z ((bs_r r hr).mpr ⟨q.1, q.2.1⟩))⟩, fun q => absurd rfl q⟩, fun z => s_178 ⟨fun y => w_182_86 _ _ _ _ ⟨fun _ => w_182_103 _ _ ⟨_, rfl, no (fun q => bI_0.mp y ((bs_r k hk).mpr q.2.2))⟩, fun q => absurd rfl q⟩, fun y => ⟨fun q => absurd q (by decide), fun _ => ⟨_, rfl, ?_⟩⟩⟩⟩)
  have z := (bs_r r hr).mp (nz z)
  have y := (bs_r k hk).mp (nz y)
  have ok : 1 ≤ r ∧ r ≤ 6 ∧ 1 ≤ k ∧ k ≤ 6 := ⟨z.1, z.2, y⟩
  rw [if_pos ok] at e
  rw [(bs_fin hr hk ok).1]
  have : bsI c h = nI (6 * (r - 1) + (k - 1)) := by
    unfold bsI
    rw [if_neg (by rw [e]; omega), e]
  rw [this] at hq; exact hq
theorem m_247t {r k : Nat} (hr : r < 8) (hk : k < 8) {c h : Nat} (e : bsA c h = if 1 ≤ r ∧ r ≤ 6 ∧ 1 ≤ k ∧ k ≤ 6 then 6 * (r - 1) + (k - 1) else 36) {μ : wm_M} {Q : Int32 → wm_M → Prop} (hq : Q (bsI c h) μ) : wm_OkI 0 184 [.int (nI r + (-1)), .int (0 : Int32), .int (5 : Int32)] μ (fun r2 μ1 => ((r2 = (0 : Int32) → wm_Wp 0 247 93 [.null, .null, .null, .null] μ1 (fun w ν => ∃ x, w = some (.int x) ∧ Q x ν)) ∧ (¬ r2 = (0 : Int32) → wm_Wp 0 247 75 [.null, .null, .int (nI r + (-1)), .int (nI k + (-1))] μ1 (fun w ν => ∃ x, w = some (.int x) ∧ Q x ν)))) := by
  have no : ¬ (1 ≤ r ∧ r ≤ 6 ∧ 1 ≤ k ∧ k ≤ 6) → Q (-1) μ := fun q => by
    rw [if_neg q] at e
    have : bsI c h = -1 := if_pos e
    rw [this] at hq; exact hq
  refine s_184 ⟨fun z => f_247_93 _ _ ⟨_, rfl, no (fun q => bI_0.mp z ((bs_r r hr).mpr ⟨q.1, q.2.1⟩))⟩, fun z => f_247_75 _ _ _ _ (s_184 ⟨fun y => f_247_93 _ _ ⟨_, rfl, no (fun q => bI_0.mp y ((bs_r k hk).mpr q.2.2))⟩, fun y => f_247_84 _ _ _ _ ⟨_, rfl, ?_⟩⟩)⟩
  have z := (bs_r r hr).mp (nz z)
  have y := (bs_r k hk).mp (nz y)
  have ok : 1 ≤ r ∧ r ≤ 6 ∧ 1 ≤ k ∧ k ≤ 6 := ⟨z.1, z.2, y⟩
  rw [if_pos ok] at e
  rw [(bs_fin hr hk ok).2]
  have : bsI c h = nI (6 * (r - 1) + (k - 1)) := by
    unfold bsI
    rw [if_neg (by rw [e]; omega), e]
  rw [this] at hq; exact hq
theorem dv6 {t : Nat} (ht : t < 2 ^ 31) : nI t / (6 : Int32) = nI (t / 6) := pk_div (d := 6) ht (by decide) (by decide)
theorem rm6 {t : Nat} (ht : t < 2 ^ 31) : nI t - nI t / (6 : Int32) * (6 : Int32) = nI (t % 6) := pk_rem (d := 6) ht (by decide) (by decide)
theorem c_182 (c h : Nat) (hc : c < 36) (hh : h < 8) {μ : wm_M} {Q : Int32 → wm_M → Prop} (hq : Q (bsI c h) μ) : wm_OkI 0 182 [.int (nI c), .int (nI h)] μ Q := by
  have r6 : c / 6 < 6 := by omega
  have k6 : c % 6 < 6 := by omega
  refine v_182 _ _ _ _ ⟨by decide, by decide, ?_⟩
  rw [rm6 (by omega), dv6 (by omega)]
  have hx : h = 0 ∨ h = 1 ∨ h = 2 ∨ h = 3 ∨ h = 4 ∨ h = 5 ∨ h = 6 ∨ h = 7 := by omega
  rcases hx with rfl | rfl | rfl | rfl | rfl | rfl | rfl | rfl
  · refine ⟨fun q => absurd q (by decide +kernel), fun _ => ⟨fun q => absurd q (by decide +kernel), fun _ => w_182_21 _ _ _ _ _ (w_182_40 _ _ _ _ _ ⟨fun _ => w_182_56 _ _ _ _ _ ⟨fun _ => ?_, fun q => absurd (by decide +kernel) q⟩, fun q => absurd (by decide +kernel) q⟩)⟩⟩
    have g := c_182t (r := c / 6) (k := c % 6 + 1) (by omega) (by omega) (c := c) (h := 0) rfl hq
    rw [← of0 (c % 6)] at g
    exact g
  · refine ⟨fun q => absurd q (by decide +kernel), fun _ => ⟨fun q => absurd q (by decide +kernel), fun _ => w_182_21 _ _ _ _ _ (w_182_40 _ _ _ _ _ ⟨fun q => absurd q (by decide +kernel), fun _ => ⟨fun q => absurd q (by decide +kernel), fun _ => ?_⟩⟩)⟩⟩
    have g := c_182t (r := c / 6) (k := c % 6 + 2) (by omega) (by omega) (c := c) (h := 1) rfl hq
    rw [← of1 (c % 6)] at g
    exact g
  · refine ⟨fun q => absurd q (by decide +kernel), fun _ => ⟨fun _ => w_182_27 _ _ _ _ _ ⟨fun _ => w_182_40 _ _ _ _ _ ⟨fun q => absurd q (by decide +kernel), fun _ => ⟨fun q => absurd q (by decide +kernel), fun _ => ?_⟩⟩, fun q => absurd (by decide +kernel) q⟩, fun q => absurd (by decide +kernel) q⟩⟩
    have g := c_182t (r := c / 6 + 1) (k := c % 6 + 2) (by omega) (by omega) (c := c) (h := 2) rfl hq
    rw [← of0 (c / 6)] at g
    rw [← of1 (c % 6)] at g
    exact g
  · refine ⟨fun q => absurd q (by decide +kernel), fun _ => ⟨fun _ => w_182_27 _ _ _ _ _ ⟨fun q => absurd q (by decide +kernel), fun _ => ⟨fun q => absurd q (by decide +kernel), fun _ => w_182_40 _ _ _ _ _ ⟨fun q => absurd q (by decide +kernel), fun _ => ⟨fun q => absurd q (by decide +kernel), fun _ => ?_⟩⟩⟩⟩, fun q => absurd (by decide +kernel) q⟩⟩
    have g := c_182t (r := c / 6 + 2) (k := c % 6 + 2) (by omega) (by omega) (c := c) (h := 3) rfl hq
    rw [← of1 (c / 6)] at g
    rw [← of1 (c % 6)] at g
    exact g
  · refine ⟨fun q => absurd q (by decide +kernel), fun _ => ⟨fun _ => w_182_27 _ _ _ _ _ ⟨fun q => absurd q (by decide +kernel), fun _ => ⟨fun q => absurd q (by decide +kernel), fun _ => w_182_40 _ _ _ _ _ ⟨fun q => absurd q (by decide +kernel), fun _ => ⟨fun _ => w_182_56 _ _ _ _ _ ⟨fun _ => ?_, fun q => absurd (by decide +kernel) q⟩, fun q => absurd (by decide +kernel) q⟩⟩⟩⟩, fun q => absurd (by decide +kernel) q⟩⟩
    have g := c_182t (r := c / 6 + 2) (k := c % 6 + 1) (by omega) (by omega) (c := c) (h := 4) rfl hq
    rw [← of1 (c / 6)] at g
    rw [← of0 (c % 6)] at g
    exact g
  · refine ⟨fun q => absurd q (by decide +kernel), fun _ => ⟨fun _ => w_182_27 _ _ _ _ _ ⟨fun q => absurd q (by decide +kernel), fun _ => ⟨fun q => absurd q (by decide +kernel), fun _ => w_182_40 _ _ _ _ _ ⟨fun q => absurd q (by decide +kernel), fun _ => ⟨fun _ => w_182_56 _ _ _ _ _ ⟨fun q => absurd q (by decide +kernel), fun _ => ?_⟩, fun q => absurd (by decide +kernel) q⟩⟩⟩⟩, fun q => absurd (by decide +kernel) q⟩⟩
    have g := c_182t (r := c / 6 + 2) (k := c % 6) (by omega) (by omega) (c := c) (h := 5) rfl hq
    rw [← of1 (c / 6)] at g
    exact g
  · refine ⟨fun q => absurd q (by decide +kernel), fun _ => ⟨fun _ => w_182_27 _ _ _ _ _ ⟨fun q => absurd q (by decide +kernel), fun _ => ⟨fun _ => w_182_40 _ _ _ _ _ ⟨fun q => absurd q (by decide +kernel), fun _ => ⟨fun _ => w_182_56 _ _ _ _ _ ⟨fun q => absurd q (by decide +kernel), fun _ => ?_⟩, fun q => absurd (by decide +kernel) q⟩⟩, fun q => absurd (by decide +kernel) q⟩⟩, fun q => absurd (by decide +kernel) q⟩⟩
    have g := c_182t (r := c / 6 + 1) (k := c % 6) (by omega) (by omega) (c := c) (h := 6) rfl hq
    rw [← of0 (c / 6)] at g
    exact g
  · refine ⟨fun _ => w_182_21 _ _ _ _ _ (w_182_40 _ _ _ _ _ ⟨fun q => absurd q (by decide +kernel), fun _ => ⟨fun _ => w_182_56 _ _ _ _ _ ⟨fun q => absurd q (by decide +kernel), fun _ => ?_⟩, fun q => absurd (by decide +kernel) q⟩⟩), fun q => absurd rfl q⟩
    have g := c_182t (r := c / 6) (k := c % 6) (by omega) (by omega) (c := c) (h := 7) rfl hq
    exact g
theorem m_247 (c h : Nat) (hc : c < 36) (hh : h < 8) {μ : wm_M} {Q : Int32 → wm_M → Prop} (hq : Q (bsI c h) μ) : wm_OkI 0 247 [.int (nI c), .int (nI h)] μ Q := by
  have r6 : c / 6 < 6 := by omega
  have k6 : c % 6 < 6 := by omega
  refine f_247 _ _ _ _ ?_
  rw [rm6 (by omega), dv6 (by omega)]
  have n6 : ¬ (6 : Int32) = 0 := by decide
  have hx : h = 0 ∨ h = 1 ∨ h = 2 ∨ h = 3 ∨ h = 4 ∨ h = 5 ∨ h = 6 ∨ h = 7 := by omega
  rcases hx with rfl | rfl | rfl | rfl | rfl | rfl | rfl | rfl
  · have g := m_247t (r := c / 6) (k := c % 6 + 1) (by omega) (by omega) (c := c) (h := 0) rfl hq
    rw [← of00 (c % 6)] at g
    have q0 : (nI 0 = (7 : Int32)) = False := eq_false (by decide +kernel)
    have q1 : (nI 0 ≤ (0 : Int32)) = True := eq_true (by decide +kernel)
    have q2 : ((0 : Int32) ≤ nI 0) = True := eq_true (by decide +kernel)
    have q3 : (nI 0 < (0 : Int32)) = False := eq_false (by decide +kernel)
    have q4 : ((0 : Int32) < nI 0) = False := eq_false (by decide +kernel)
    have q5 : (nI 0 ≤ (4 : Int32)) = True := eq_true (by decide +kernel)
    have q6 : ((4 : Int32) ≤ nI 0) = False := eq_false (by decide +kernel)
    have q7 : (nI 0 < (4 : Int32)) = True := eq_true (by decide +kernel)
    have q8 : ((4 : Int32) < nI 0) = False := eq_false (by decide +kernel)
    have q9 : (nI 0 ≤ (2 : Int32)) = True := eq_true (by decide +kernel)
    have q10 : ((2 : Int32) ≤ nI 0) = False := eq_false (by decide +kernel)
    have q11 : (nI 0 < (2 : Int32)) = True := eq_true (by decide +kernel)
    have q12 : ((2 : Int32) < nI 0) = False := eq_false (by decide +kernel)
    have q13 : (nI 0 ≤ (6 : Int32)) = True := eq_true (by decide +kernel)
    have q14 : ((6 : Int32) ≤ nI 0) = False := eq_false (by decide +kernel)
    have q15 : (nI 0 < (6 : Int32)) = True := eq_true (by decide +kernel)
    have q16 : ((6 : Int32) < nI 0) = False := eq_false (by decide +kernel)
    have q17 : (nI 0 ≤ (1 : Int32)) = True := eq_true (by decide +kernel)
    have q18 : ((1 : Int32) ≤ nI 0) = False := eq_false (by decide +kernel)
    have q19 : (nI 0 < (1 : Int32)) = True := eq_true (by decide +kernel)
    have q20 : ((1 : Int32) < nI 0) = False := eq_false (by decide +kernel)
    have q21 : (nI 0 ≤ (3 : Int32)) = True := eq_true (by decide +kernel)
    have q22 : ((3 : Int32) ≤ nI 0) = False := eq_false (by decide +kernel)
    have q23 : (nI 0 < (3 : Int32)) = True := eq_true (by decide +kernel)
    have q24 : ((3 : Int32) < nI 0) = False := eq_false (by decide +kernel)
    have q25 : (nI 0 ≤ (5 : Int32)) = True := eq_true (by decide +kernel)
    have q26 : ((5 : Int32) ≤ nI 0) = False := eq_false (by decide +kernel)
    have q27 : (nI 0 < (5 : Int32)) = True := eq_true (by decide +kernel)
    have q28 : ((5 : Int32) < nI 0) = False := eq_false (by decide +kernel)
    have q29 : (nI 0 ≤ (7 : Int32)) = True := eq_true (by decide +kernel)
    have q30 : ((7 : Int32) ≤ nI 0) = False := eq_false (by decide +kernel)
    have q31 : (nI 0 < (7 : Int32)) = True := eq_true (by decide +kernel)
    have q32 : ((7 : Int32) < nI 0) = False := eq_false (by decide +kernel)
    simp only [eq_true n6, q0, q1, q2, q3, q4, q5, q6, q7, q8, q9, q10, q11, q12, q13, q14, q15, q16, q17, q18, q19, q20, q21, q22, q23, q24, q25, q26, q27, q28, q29, q30, q31, q32, true_implies, false_implies, not_true_eq_false, not_false_eq_true, true_and, and_true]
    exact g
  · have g := m_247t (r := c / 6) (k := c % 6 + 2) (by omega) (by omega) (c := c) (h := 1) rfl hq
    rw [← of1 (c % 6)] at g
    have q0 : (nI 1 = (7 : Int32)) = False := eq_false (by decide +kernel)
    have q1 : (nI 1 ≤ (0 : Int32)) = False := eq_false (by decide +kernel)
    have q2 : ((0 : Int32) ≤ nI 1) = True := eq_true (by decide +kernel)
    have q3 : (nI 1 < (0 : Int32)) = False := eq_false (by decide +kernel)
    have q4 : ((0 : Int32) < nI 1) = True := eq_true (by decide +kernel)
    have q5 : (nI 1 ≤ (4 : Int32)) = True := eq_true (by decide +kernel)
    have q6 : ((4 : Int32) ≤ nI 1) = False := eq_false (by decide +kernel)
    have q7 : (nI 1 < (4 : Int32)) = True := eq_true (by decide +kernel)
    have q8 : ((4 : Int32) < nI 1) = False := eq_false (by decide +kernel)
    have q9 : (nI 1 ≤ (2 : Int32)) = True := eq_true (by decide +kernel)
    have q10 : ((2 : Int32) ≤ nI 1) = False := eq_false (by decide +kernel)
    have q11 : (nI 1 < (2 : Int32)) = True := eq_true (by decide +kernel)
    have q12 : ((2 : Int32) < nI 1) = False := eq_false (by decide +kernel)
    have q13 : (nI 1 ≤ (6 : Int32)) = True := eq_true (by decide +kernel)
    have q14 : ((6 : Int32) ≤ nI 1) = False := eq_false (by decide +kernel)
    have q15 : (nI 1 < (6 : Int32)) = True := eq_true (by decide +kernel)
    have q16 : ((6 : Int32) < nI 1) = False := eq_false (by decide +kernel)
    have q17 : (nI 1 ≤ (1 : Int32)) = True := eq_true (by decide +kernel)
    have q18 : ((1 : Int32) ≤ nI 1) = True := eq_true (by decide +kernel)
    have q19 : (nI 1 < (1 : Int32)) = False := eq_false (by decide +kernel)
    have q20 : ((1 : Int32) < nI 1) = False := eq_false (by decide +kernel)
    have q21 : (nI 1 ≤ (3 : Int32)) = True := eq_true (by decide +kernel)
    have q22 : ((3 : Int32) ≤ nI 1) = False := eq_false (by decide +kernel)
    have q23 : (nI 1 < (3 : Int32)) = True := eq_true (by decide +kernel)
    have q24 : ((3 : Int32) < nI 1) = False := eq_false (by decide +kernel)
    have q25 : (nI 1 ≤ (5 : Int32)) = True := eq_true (by decide +kernel)
    have q26 : ((5 : Int32) ≤ nI 1) = False := eq_false (by decide +kernel)
    have q27 : (nI 1 < (5 : Int32)) = True := eq_true (by decide +kernel)
    have q28 : ((5 : Int32) < nI 1) = False := eq_false (by decide +kernel)
    have q29 : (nI 1 ≤ (7 : Int32)) = True := eq_true (by decide +kernel)
    have q30 : ((7 : Int32) ≤ nI 1) = False := eq_false (by decide +kernel)
    have q31 : (nI 1 < (7 : Int32)) = True := eq_true (by decide +kernel)
    have q32 : ((7 : Int32) < nI 1) = False := eq_false (by decide +kernel)
    simp only [eq_true n6, q0, q1, q2, q3, q4, q5, q6, q7, q8, q9, q10, q11, q12, q13, q14, q15, q16, q17, q18, q19, q20, q21, q22, q23, q24, q25, q26, q27, q28, q29, q30, q31, q32, true_implies, false_implies, not_true_eq_false, not_false_eq_true, true_and, and_true]
    exact g
  · have g := m_247t (r := c / 6 + 1) (k := c % 6 + 2) (by omega) (by omega) (c := c) (h := 2) rfl hq
    rw [← of00 (c / 6)] at g
    rw [← of1 (c % 6)] at g
    have q0 : (nI 2 = (7 : Int32)) = False := eq_false (by decide +kernel)
    have q1 : (nI 2 ≤ (0 : Int32)) = False := eq_false (by decide +kernel)
    have q2 : ((0 : Int32) ≤ nI 2) = True := eq_true (by decide +kernel)
    have q3 : (nI 2 < (0 : Int32)) = False := eq_false (by decide +kernel)
    have q4 : ((0 : Int32) < nI 2) = True := eq_true (by decide +kernel)
    have q5 : (nI 2 ≤ (4 : Int32)) = True := eq_true (by decide +kernel)
    have q6 : ((4 : Int32) ≤ nI 2) = False := eq_false (by decide +kernel)
    have q7 : (nI 2 < (4 : Int32)) = True := eq_true (by decide +kernel)
    have q8 : ((4 : Int32) < nI 2) = False := eq_false (by decide +kernel)
    have q9 : (nI 2 ≤ (2 : Int32)) = True := eq_true (by decide +kernel)
    have q10 : ((2 : Int32) ≤ nI 2) = True := eq_true (by decide +kernel)
    have q11 : (nI 2 < (2 : Int32)) = False := eq_false (by decide +kernel)
    have q12 : ((2 : Int32) < nI 2) = False := eq_false (by decide +kernel)
    have q13 : (nI 2 ≤ (6 : Int32)) = True := eq_true (by decide +kernel)
    have q14 : ((6 : Int32) ≤ nI 2) = False := eq_false (by decide +kernel)
    have q15 : (nI 2 < (6 : Int32)) = True := eq_true (by decide +kernel)
    have q16 : ((6 : Int32) < nI 2) = False := eq_false (by decide +kernel)
    have q17 : (nI 2 ≤ (1 : Int32)) = False := eq_false (by decide +kernel)
    have q18 : ((1 : Int32) ≤ nI 2) = True := eq_true (by decide +kernel)
    have q19 : (nI 2 < (1 : Int32)) = False := eq_false (by decide +kernel)
    have q20 : ((1 : Int32) < nI 2) = True := eq_true (by decide +kernel)
    have q21 : (nI 2 ≤ (3 : Int32)) = True := eq_true (by decide +kernel)
    have q22 : ((3 : Int32) ≤ nI 2) = False := eq_false (by decide +kernel)
    have q23 : (nI 2 < (3 : Int32)) = True := eq_true (by decide +kernel)
    have q24 : ((3 : Int32) < nI 2) = False := eq_false (by decide +kernel)
    have q25 : (nI 2 ≤ (5 : Int32)) = True := eq_true (by decide +kernel)
    have q26 : ((5 : Int32) ≤ nI 2) = False := eq_false (by decide +kernel)
    have q27 : (nI 2 < (5 : Int32)) = True := eq_true (by decide +kernel)
    have q28 : ((5 : Int32) < nI 2) = False := eq_false (by decide +kernel)
    have q29 : (nI 2 ≤ (7 : Int32)) = True := eq_true (by decide +kernel)
    have q30 : ((7 : Int32) ≤ nI 2) = False := eq_false (by decide +kernel)
    have q31 : (nI 2 < (7 : Int32)) = True := eq_true (by decide +kernel)
    have q32 : ((7 : Int32) < nI 2) = False := eq_false (by decide +kernel)
    simp only [eq_true n6, q0, q1, q2, q3, q4, q5, q6, q7, q8, q9, q10, q11, q12, q13, q14, q15, q16, q17, q18, q19, q20, q21, q22, q23, q24, q25, q26, q27, q28, q29, q30, q31, q32, true_implies, false_implies, not_true_eq_false, not_false_eq_true, true_and, and_true]
    exact g
  · have g := m_247t (r := c / 6 + 2) (k := c % 6 + 2) (by omega) (by omega) (c := c) (h := 3) rfl hq
    rw [← of1 (c / 6)] at g
    rw [← of1 (c % 6)] at g
    have q0 : (nI 3 = (7 : Int32)) = False := eq_false (by decide +kernel)
    have q1 : (nI 3 ≤ (0 : Int32)) = False := eq_false (by decide +kernel)
    have q2 : ((0 : Int32) ≤ nI 3) = True := eq_true (by decide +kernel)
    have q3 : (nI 3 < (0 : Int32)) = False := eq_false (by decide +kernel)
    have q4 : ((0 : Int32) < nI 3) = True := eq_true (by decide +kernel)
    have q5 : (nI 3 ≤ (4 : Int32)) = True := eq_true (by decide +kernel)
    have q6 : ((4 : Int32) ≤ nI 3) = False := eq_false (by decide +kernel)
    have q7 : (nI 3 < (4 : Int32)) = True := eq_true (by decide +kernel)
    have q8 : ((4 : Int32) < nI 3) = False := eq_false (by decide +kernel)
    have q9 : (nI 3 ≤ (2 : Int32)) = False := eq_false (by decide +kernel)
    have q10 : ((2 : Int32) ≤ nI 3) = True := eq_true (by decide +kernel)
    have q11 : (nI 3 < (2 : Int32)) = False := eq_false (by decide +kernel)
    have q12 : ((2 : Int32) < nI 3) = True := eq_true (by decide +kernel)
    have q13 : (nI 3 ≤ (6 : Int32)) = True := eq_true (by decide +kernel)
    have q14 : ((6 : Int32) ≤ nI 3) = False := eq_false (by decide +kernel)
    have q15 : (nI 3 < (6 : Int32)) = True := eq_true (by decide +kernel)
    have q16 : ((6 : Int32) < nI 3) = False := eq_false (by decide +kernel)
    have q17 : (nI 3 ≤ (1 : Int32)) = False := eq_false (by decide +kernel)
    have q18 : ((1 : Int32) ≤ nI 3) = True := eq_true (by decide +kernel)
    have q19 : (nI 3 < (1 : Int32)) = False := eq_false (by decide +kernel)
    have q20 : ((1 : Int32) < nI 3) = True := eq_true (by decide +kernel)
    have q21 : (nI 3 ≤ (3 : Int32)) = True := eq_true (by decide +kernel)
    have q22 : ((3 : Int32) ≤ nI 3) = True := eq_true (by decide +kernel)
    have q23 : (nI 3 < (3 : Int32)) = False := eq_false (by decide +kernel)
    have q24 : ((3 : Int32) < nI 3) = False := eq_false (by decide +kernel)
    have q25 : (nI 3 ≤ (5 : Int32)) = True := eq_true (by decide +kernel)
    have q26 : ((5 : Int32) ≤ nI 3) = False := eq_false (by decide +kernel)
    have q27 : (nI 3 < (5 : Int32)) = True := eq_true (by decide +kernel)
    have q28 : ((5 : Int32) < nI 3) = False := eq_false (by decide +kernel)
    have q29 : (nI 3 ≤ (7 : Int32)) = True := eq_true (by decide +kernel)
    have q30 : ((7 : Int32) ≤ nI 3) = False := eq_false (by decide +kernel)
    have q31 : (nI 3 < (7 : Int32)) = True := eq_true (by decide +kernel)
    have q32 : ((7 : Int32) < nI 3) = False := eq_false (by decide +kernel)
    simp only [eq_true n6, q0, q1, q2, q3, q4, q5, q6, q7, q8, q9, q10, q11, q12, q13, q14, q15, q16, q17, q18, q19, q20, q21, q22, q23, q24, q25, q26, q27, q28, q29, q30, q31, q32, true_implies, false_implies, not_true_eq_false, not_false_eq_true, true_and, and_true]
    exact g
  · have g := m_247t (r := c / 6 + 2) (k := c % 6 + 1) (by omega) (by omega) (c := c) (h := 4) rfl hq
    rw [← of1 (c / 6)] at g
    rw [← of00 (c % 6)] at g
    have q0 : (nI 4 = (7 : Int32)) = False := eq_false (by decide +kernel)
    have q1 : (nI 4 ≤ (0 : Int32)) = False := eq_false (by decide +kernel)
    have q2 : ((0 : Int32) ≤ nI 4) = True := eq_true (by decide +kernel)
    have q3 : (nI 4 < (0 : Int32)) = False := eq_false (by decide +kernel)
    have q4 : ((0 : Int32) < nI 4) = True := eq_true (by decide +kernel)
    have q5 : (nI 4 ≤ (4 : Int32)) = True := eq_true (by decide +kernel)
    have q6 : ((4 : Int32) ≤ nI 4) = True := eq_true (by decide +kernel)
    have q7 : (nI 4 < (4 : Int32)) = False := eq_false (by decide +kernel)
    have q8 : ((4 : Int32) < nI 4) = False := eq_false (by decide +kernel)
    have q9 : (nI 4 ≤ (2 : Int32)) = False := eq_false (by decide +kernel)
    have q10 : ((2 : Int32) ≤ nI 4) = True := eq_true (by decide +kernel)
    have q11 : (nI 4 < (2 : Int32)) = False := eq_false (by decide +kernel)
    have q12 : ((2 : Int32) < nI 4) = True := eq_true (by decide +kernel)
    have q13 : (nI 4 ≤ (6 : Int32)) = True := eq_true (by decide +kernel)
    have q14 : ((6 : Int32) ≤ nI 4) = False := eq_false (by decide +kernel)
    have q15 : (nI 4 < (6 : Int32)) = True := eq_true (by decide +kernel)
    have q16 : ((6 : Int32) < nI 4) = False := eq_false (by decide +kernel)
    have q17 : (nI 4 ≤ (1 : Int32)) = False := eq_false (by decide +kernel)
    have q18 : ((1 : Int32) ≤ nI 4) = True := eq_true (by decide +kernel)
    have q19 : (nI 4 < (1 : Int32)) = False := eq_false (by decide +kernel)
    have q20 : ((1 : Int32) < nI 4) = True := eq_true (by decide +kernel)
    have q21 : (nI 4 ≤ (3 : Int32)) = False := eq_false (by decide +kernel)
    have q22 : ((3 : Int32) ≤ nI 4) = True := eq_true (by decide +kernel)
    have q23 : (nI 4 < (3 : Int32)) = False := eq_false (by decide +kernel)
    have q24 : ((3 : Int32) < nI 4) = True := eq_true (by decide +kernel)
    have q25 : (nI 4 ≤ (5 : Int32)) = True := eq_true (by decide +kernel)
    have q26 : ((5 : Int32) ≤ nI 4) = False := eq_false (by decide +kernel)
    have q27 : (nI 4 < (5 : Int32)) = True := eq_true (by decide +kernel)
    have q28 : ((5 : Int32) < nI 4) = False := eq_false (by decide +kernel)
    have q29 : (nI 4 ≤ (7 : Int32)) = True := eq_true (by decide +kernel)
    have q30 : ((7 : Int32) ≤ nI 4) = False := eq_false (by decide +kernel)
    have q31 : (nI 4 < (7 : Int32)) = True := eq_true (by decide +kernel)
    have q32 : ((7 : Int32) < nI 4) = False := eq_false (by decide +kernel)
    simp only [eq_true n6, q0, q1, q2, q3, q4, q5, q6, q7, q8, q9, q10, q11, q12, q13, q14, q15, q16, q17, q18, q19, q20, q21, q22, q23, q24, q25, q26, q27, q28, q29, q30, q31, q32, true_implies, false_implies, not_true_eq_false, not_false_eq_true, true_and, and_true]
    exact g
  · have g := m_247t (r := c / 6 + 2) (k := c % 6) (by omega) (by omega) (c := c) (h := 5) rfl hq
    rw [← of1 (c / 6)] at g
    have q0 : (nI 5 = (7 : Int32)) = False := eq_false (by decide +kernel)
    have q1 : (nI 5 ≤ (0 : Int32)) = False := eq_false (by decide +kernel)
    have q2 : ((0 : Int32) ≤ nI 5) = True := eq_true (by decide +kernel)
    have q3 : (nI 5 < (0 : Int32)) = False := eq_false (by decide +kernel)
    have q4 : ((0 : Int32) < nI 5) = True := eq_true (by decide +kernel)
    have q5 : (nI 5 ≤ (4 : Int32)) = False := eq_false (by decide +kernel)
    have q6 : ((4 : Int32) ≤ nI 5) = True := eq_true (by decide +kernel)
    have q7 : (nI 5 < (4 : Int32)) = False := eq_false (by decide +kernel)
    have q8 : ((4 : Int32) < nI 5) = True := eq_true (by decide +kernel)
    have q9 : (nI 5 ≤ (2 : Int32)) = False := eq_false (by decide +kernel)
    have q10 : ((2 : Int32) ≤ nI 5) = True := eq_true (by decide +kernel)
    have q11 : (nI 5 < (2 : Int32)) = False := eq_false (by decide +kernel)
    have q12 : ((2 : Int32) < nI 5) = True := eq_true (by decide +kernel)
    have q13 : (nI 5 ≤ (6 : Int32)) = True := eq_true (by decide +kernel)
    have q14 : ((6 : Int32) ≤ nI 5) = False := eq_false (by decide +kernel)
    have q15 : (nI 5 < (6 : Int32)) = True := eq_true (by decide +kernel)
    have q16 : ((6 : Int32) < nI 5) = False := eq_false (by decide +kernel)
    have q17 : (nI 5 ≤ (1 : Int32)) = False := eq_false (by decide +kernel)
    have q18 : ((1 : Int32) ≤ nI 5) = True := eq_true (by decide +kernel)
    have q19 : (nI 5 < (1 : Int32)) = False := eq_false (by decide +kernel)
    have q20 : ((1 : Int32) < nI 5) = True := eq_true (by decide +kernel)
    have q21 : (nI 5 ≤ (3 : Int32)) = False := eq_false (by decide +kernel)
    have q22 : ((3 : Int32) ≤ nI 5) = True := eq_true (by decide +kernel)
    have q23 : (nI 5 < (3 : Int32)) = False := eq_false (by decide +kernel)
    have q24 : ((3 : Int32) < nI 5) = True := eq_true (by decide +kernel)
    have q25 : (nI 5 ≤ (5 : Int32)) = True := eq_true (by decide +kernel)
    have q26 : ((5 : Int32) ≤ nI 5) = True := eq_true (by decide +kernel)
    have q27 : (nI 5 < (5 : Int32)) = False := eq_false (by decide +kernel)
    have q28 : ((5 : Int32) < nI 5) = False := eq_false (by decide +kernel)
    have q29 : (nI 5 ≤ (7 : Int32)) = True := eq_true (by decide +kernel)
    have q30 : ((7 : Int32) ≤ nI 5) = False := eq_false (by decide +kernel)
    have q31 : (nI 5 < (7 : Int32)) = True := eq_true (by decide +kernel)
    have q32 : ((7 : Int32) < nI 5) = False := eq_false (by decide +kernel)
    simp only [eq_true n6, q0, q1, q2, q3, q4, q5, q6, q7, q8, q9, q10, q11, q12, q13, q14, q15, q16, q17, q18, q19, q20, q21, q22, q23, q24, q25, q26, q27, q28, q29, q30, q31, q32, true_implies, false_implies, not_true_eq_false, not_false_eq_true, true_and, and_true]
    exact g
  · have g := m_247t (r := c / 6 + 1) (k := c % 6) (by omega) (by omega) (c := c) (h := 6) rfl hq
    rw [← of00 (c / 6)] at g
    have q0 : (nI 6 = (7 : Int32)) = False := eq_false (by decide +kernel)
    have q1 : (nI 6 ≤ (0 : Int32)) = False := eq_false (by decide +kernel)
    have q2 : ((0 : Int32) ≤ nI 6) = True := eq_true (by decide +kernel)
    have q3 : (nI 6 < (0 : Int32)) = False := eq_false (by decide +kernel)
    have q4 : ((0 : Int32) < nI 6) = True := eq_true (by decide +kernel)
    have q5 : (nI 6 ≤ (4 : Int32)) = False := eq_false (by decide +kernel)
    have q6 : ((4 : Int32) ≤ nI 6) = True := eq_true (by decide +kernel)
    have q7 : (nI 6 < (4 : Int32)) = False := eq_false (by decide +kernel)
    have q8 : ((4 : Int32) < nI 6) = True := eq_true (by decide +kernel)
    have q9 : (nI 6 ≤ (2 : Int32)) = False := eq_false (by decide +kernel)
    have q10 : ((2 : Int32) ≤ nI 6) = True := eq_true (by decide +kernel)
    have q11 : (nI 6 < (2 : Int32)) = False := eq_false (by decide +kernel)
    have q12 : ((2 : Int32) < nI 6) = True := eq_true (by decide +kernel)
    have q13 : (nI 6 ≤ (6 : Int32)) = True := eq_true (by decide +kernel)
    have q14 : ((6 : Int32) ≤ nI 6) = True := eq_true (by decide +kernel)
    have q15 : (nI 6 < (6 : Int32)) = False := eq_false (by decide +kernel)
    have q16 : ((6 : Int32) < nI 6) = False := eq_false (by decide +kernel)
    have q17 : (nI 6 ≤ (1 : Int32)) = False := eq_false (by decide +kernel)
    have q18 : ((1 : Int32) ≤ nI 6) = True := eq_true (by decide +kernel)
    have q19 : (nI 6 < (1 : Int32)) = False := eq_false (by decide +kernel)
    have q20 : ((1 : Int32) < nI 6) = True := eq_true (by decide +kernel)
    have q21 : (nI 6 ≤ (3 : Int32)) = False := eq_false (by decide +kernel)
    have q22 : ((3 : Int32) ≤ nI 6) = True := eq_true (by decide +kernel)
    have q23 : (nI 6 < (3 : Int32)) = False := eq_false (by decide +kernel)
    have q24 : ((3 : Int32) < nI 6) = True := eq_true (by decide +kernel)
    have q25 : (nI 6 ≤ (5 : Int32)) = False := eq_false (by decide +kernel)
    have q26 : ((5 : Int32) ≤ nI 6) = True := eq_true (by decide +kernel)
    have q27 : (nI 6 < (5 : Int32)) = False := eq_false (by decide +kernel)
    have q28 : ((5 : Int32) < nI 6) = True := eq_true (by decide +kernel)
    have q29 : (nI 6 ≤ (7 : Int32)) = True := eq_true (by decide +kernel)
    have q30 : ((7 : Int32) ≤ nI 6) = False := eq_false (by decide +kernel)
    have q31 : (nI 6 < (7 : Int32)) = True := eq_true (by decide +kernel)
    have q32 : ((7 : Int32) < nI 6) = False := eq_false (by decide +kernel)
    simp only [eq_true n6, q0, q1, q2, q3, q4, q5, q6, q7, q8, q9, q10, q11, q12, q13, q14, q15, q16, q17, q18, q19, q20, q21, q22, q23, q24, q25, q26, q27, q28, q29, q30, q31, q32, true_implies, false_implies, not_true_eq_false, not_false_eq_true, true_and, and_true]
    exact g
  · have g := m_247t (r := c / 6) (k := c % 6) (by omega) (by omega) (c := c) (h := 7) rfl hq
    have q0 : (nI 7 = (7 : Int32)) = True := eq_true (by decide +kernel)
    have q1 : (nI 7 ≤ (0 : Int32)) = False := eq_false (by decide +kernel)
    have q2 : ((0 : Int32) ≤ nI 7) = True := eq_true (by decide +kernel)
    have q3 : (nI 7 < (0 : Int32)) = False := eq_false (by decide +kernel)
    have q4 : ((0 : Int32) < nI 7) = True := eq_true (by decide +kernel)
    have q5 : (nI 7 ≤ (4 : Int32)) = False := eq_false (by decide +kernel)
    have q6 : ((4 : Int32) ≤ nI 7) = True := eq_true (by decide +kernel)
    have q7 : (nI 7 < (4 : Int32)) = False := eq_false (by decide +kernel)
    have q8 : ((4 : Int32) < nI 7) = True := eq_true (by decide +kernel)
    have q9 : (nI 7 ≤ (2 : Int32)) = False := eq_false (by decide +kernel)
    have q10 : ((2 : Int32) ≤ nI 7) = True := eq_true (by decide +kernel)
    have q11 : (nI 7 < (2 : Int32)) = False := eq_false (by decide +kernel)
    have q12 : ((2 : Int32) < nI 7) = True := eq_true (by decide +kernel)
    have q13 : (nI 7 ≤ (6 : Int32)) = False := eq_false (by decide +kernel)
    have q14 : ((6 : Int32) ≤ nI 7) = True := eq_true (by decide +kernel)
    have q15 : (nI 7 < (6 : Int32)) = False := eq_false (by decide +kernel)
    have q16 : ((6 : Int32) < nI 7) = True := eq_true (by decide +kernel)
    have q17 : (nI 7 ≤ (1 : Int32)) = False := eq_false (by decide +kernel)
    have q18 : ((1 : Int32) ≤ nI 7) = True := eq_true (by decide +kernel)
    have q19 : (nI 7 < (1 : Int32)) = False := eq_false (by decide +kernel)
    have q20 : ((1 : Int32) < nI 7) = True := eq_true (by decide +kernel)
    have q21 : (nI 7 ≤ (3 : Int32)) = False := eq_false (by decide +kernel)
    have q22 : ((3 : Int32) ≤ nI 7) = True := eq_true (by decide +kernel)
    have q23 : (nI 7 < (3 : Int32)) = False := eq_false (by decide +kernel)
    have q24 : ((3 : Int32) < nI 7) = True := eq_true (by decide +kernel)
    have q25 : (nI 7 ≤ (5 : Int32)) = False := eq_false (by decide +kernel)
    have q26 : ((5 : Int32) ≤ nI 7) = True := eq_true (by decide +kernel)
    have q27 : (nI 7 < (5 : Int32)) = False := eq_false (by decide +kernel)
    have q28 : ((5 : Int32) < nI 7) = True := eq_true (by decide +kernel)
    have q29 : (nI 7 ≤ (7 : Int32)) = True := eq_true (by decide +kernel)
    have q30 : ((7 : Int32) ≤ nI 7) = True := eq_true (by decide +kernel)
    have q31 : (nI 7 < (7 : Int32)) = False := eq_false (by decide +kernel)
    have q32 : ((7 : Int32) < nI 7) = False := eq_false (by decide +kernel)
    simp only [eq_true n6, q0, q1, q2, q3, q4, q5, q6, q7, q8, q9, q10, q11, q12, q13, q14, q15, q16, q17, q18, q19, q20, q21, q22, q23, q24, q25, q26, q27, q28, q29, q30, q31, q32, true_implies, false_implies, not_true_eq_false, not_false_eq_true, true_and, and_true]
    exact g
