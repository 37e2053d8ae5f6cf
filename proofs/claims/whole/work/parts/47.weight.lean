/-! ===== weight ===== -/
theorem abs4 : ∀ a, a < 40 → ∀ b, b < 40 → ((4 : Int32) < (if 0 ≤ (nI a - nI b) then (nI a - nI b) else 0 - (nI a - nI b)) ↔ ¬ (a ≤ b + 4 ∧ b ≤ a + 4)) := by decide +kernel
theorem dif4 : ∀ a, a < 40 → ∀ b, b < 40 → ((4 : Int32) < nI a - nI b ↔ ¬ a ≤ b + 4) ∧ (nI a - nI b < (-4 : Int32) ↔ ¬ b ≤ a + 4) := by decide +kernel
theorem ap_le (a b : Nat) (ha : a < 8) (hb : b < 8) : ap a b ≤ 4 := by
  unfold ap
  repeat' split
  all_goals omega
theorem htA_sm (A : Nat → Nat) (w : Nat) : ∀ n, htA A w n = smN (fun h => if hitA A w h = true then 1 else 0) n
  | 0 => rfl
  | n + 1 => by unfold htA smN; rw [htA_sm A w n]
theorem hitA_iff (A : Nat → Nat) (w h : Nat) : hitA A w h = true ↔ tdA A w h = true ∧ tdA A 6 h = true ∧ ap (A (72 + 12 * w + h)) (A (72 + 12 * 6 + h)) ≤ 1 ∧ A (156 + 12 * w + h) ≤ A (156 + 12 * 6 + h) + 4 ∧ A (156 + 12 * 6 + h) ≤ A (156 + 12 * w + h) + 4 := by
  unfold hitA
  simp only [Bool.and_eq_true, Nat.ble_eq]
  exact ⟨fun ⟨⟨⟨⟨a, b⟩, c⟩, d⟩, e⟩ => ⟨a, b, c, d, e⟩, fun ⟨a, b, c, d, e⟩ => ⟨⟨⟨⟨a, b⟩, c⟩, d⟩, e⟩⟩
theorem tdA_f {A : Nat → Nat} {w k : Nat} : tdA A w k = true ↔ ¬ A (240 + 12 * w + k) = 0 := by
  unfold tdA
  by_cases q : A (240 + 12 * w + k) = 0
  · rw [q]; decide
  · rw [decide_eq_false q]; exact ⟨fun _ => q, fun _ => rfl⟩
theorem c_80 {m : Nat} {A : Nat → Nat} (w : Nat) (hw : w < 6) {μ : wm_M} {Q : Int32 → wm_M → Prop} (hC : CL m A μ) (hq : Q (nI (htA A w 12)) μ) : wm_OkI 0 80 [.ref 2, .int (nI w)] μ Q := by
  rw [htA_sm] at hq
  refine v_80 _ _ _ (loopS (fun h => if hitA A w h = true then 1 else 0) (fun a i => wm_Wp 0 80 4 [.ref 2, .int (nI w), .int (nI a), .int (nI i), .null, .null] μ _) 12 (fun i a hi ih => w_80_4 _ _ _ _ _ ⟨fun z => absurd z (nI_ge (a := i) (b := 12) hi (by decide)), fun _ => s_69 w i (by omega) hi ?_⟩) (w_80_4 _ _ _ _ _ ⟨fun _ => w_80_95 _ _ _ ⟨_, rfl, hq⟩, fun z => absurd (nI_le (Nat.le_refl 12) (by decide)) z⟩))
  have no : ¬ hitA A w i = true → wm_Wp 0 80 89 [.ref 2, .int (nI w), .int (nI a), .int (nI i), .null, .null] μ (fun v ν => ∃ x, v = some (.int x) ∧ Q x ν) := fun q => by
    refine w_80_89 _ _ _ _ _ ?_
    have e : (if hitA A w i = true then 1 else 0) = 0 := if_neg q
    simp only [e] at ih
    rw [nI_1]; exact ih
  rw [tc_td hC (by omega) hi]
  refine ⟨fun z => no (fun q => bI_0.mp z ((hitA_iff A w i).mp q).1), fun z => s_69 6 i (by omega) hi ?_⟩
  rw [tc_td hC (by omega) hi]
  refine ⟨fun y => no (fun q => bI_0.mp y ((hitA_iff A w i).mp q).2.1), fun y => ?_⟩
  have z := tdA_f.mp (nz z)
  have y := tdA_f.mp (nz y)
  have e1 : (nI w * (12 : Int32)) + nI i = nI (w * 12 + i) := ix2 w i
  have e2 : (72 : Int32) + nI i = nI (72 + i) := nI_add 72 i
  have f1 := hC.1.from (show w * 12 + i < 84 by omega)
  have f2 := hC.1.from (show 72 + i < 84 by omega)
  have g1 := hC.1.force (show w * 12 + i < 84 by omega)
  have g2 := hC.1.force (show 72 + i < 84 by omega)
  have h1 : μ.1 6 (w * 12 + i) = _ := hC.2.2.2.1.1 (w * 12 + i) (by omega)
  have h2 : μ.1 6 (72 + i) = _ := hC.2.2.2.1.1 (72 + i) (by omega)
  rw [if_neg (by rw [show 240 + (w * 12 + i) = 240 + 12 * w + i by omega]; exact z)] at h1
  rw [if_neg (by rw [show 240 + (72 + i) = 240 + 12 * 6 + i by omega]; exact y)] at h2
  rw [e1, e2, nI_clamp (by omega), nI_clamp (by omega), hC.2.2.1.from (show w * 12 + i < 84 by omega), hC.2.2.1.from (show 72 + i < 84 by omega)]
  have v1 : vp_in (nI (w * 12 + i)) 84 := vp_in_nI (by omega) (by decide)
  have v2 : vp_in (nI (72 + i)) 84 := vp_in_nI (by omega) (by decide)
  have hi4 := ap_le _ _ f1 f2
  have hit := hitA_iff A w i
  rw [show 72 + 12 * w + i = 72 + (w * 12 + i) by omega, show 72 + 12 * 6 + i = 72 + (72 + i) by omega, show 156 + 12 * w + i = 156 + (w * 12 + i) by omega, show 156 + 12 * 6 + i = 156 + (72 + i) by omega] at hit
  refine ⟨v1, v2, s_181 _ _ f1 f2 ⟨fun x => no (fun q => ?_), fun x => ?_⟩⟩
  · have x := (nI_ltI (a := 1) (by decide) (by omega)).mp x
    have := (hit.mp q).2.2.1
    omega
  rw [h1, h2]
  refine ⟨v1, v2, fun t => no (fun q => ?_), fun t => ?_⟩
  · exact ((abs4 _ g1 _ g2).mp t) (hit.mp q).2.2.2
  · have x : ¬ 1 < ap (A (72 + (w * 12 + i))) (A (72 + (72 + i))) := fun q => x ((nI_ltI (a := 1) (by decide) (by omega)).mpr q)
    have t := Classical.not_not.mp (fun q => t ((abs4 _ g1 _ g2).mpr q))
    refine w_80_89 _ _ _ _ _ ?_
    have e : (if hitA A w i = true then 1 else 0) = 1 := if_pos (hit.mpr ⟨tdA_f.mpr z, tdA_f.mpr y, by omega, t⟩)
    simp only [e] at ih
    rw [nI_1, nI_1]; exact ih
theorem c_81 {m : Nat} {A : Nat → Nat} (w : Nat) (hw : w < 6) {μ : wm_M} {Q : Int32 → wm_M → Prop} (hC : CL m A μ) (hq : Q (nI (wtA A w)) μ) : wm_OkI 0 81 [.ref 2, .int (nI w)] μ Q := by
  refine v_81 _ _ _ ⟨n2, ?_⟩
  simp (disch := omega) only [nl, nI_add, pk_mul, pk_sub, pk_div, rm_n, nI_clamp, vi_, nI_leI, nI_ltI, nI_eq, nI_sb, nI_eqm, nI_meq, Nat.zero_add, Nat.add_zero]
  refine c_80 (w / 2 * 2) (by omega) hC (c_80 (w / 2 * 2 + 1) (by omega) hC ⟨_, rfl, ?_⟩)
  simp (disch := omega) only [nl, nI_add, pk_mul, pk_sub, pk_div, rm_n, nI_clamp, vi_, nI_leI, nI_ltI, nI_eq, nI_sb, nI_eqm, nI_meq, Nat.zero_add, Nat.add_zero]
  exact hq
theorem m_271 {m : Nat} {A : Nat → Nat} (w : Nat) (hw : w < 6) {μ : wm_M} {Q : Int32 → wm_M → Prop} (hB : BA m A) (hM : RM 91 A μ) (hq : Q (nI (wtA A w)) μ) : wm_OkI 0 271 [.ref 89, .int (nI w)] μ Q := by
  have e2 : nI w / (2 : Int32) * (2 : Int32) = nI (w / 2 * 2) := by simp (disch := omega) only [nl, nI_add, pk_mul, pk_sub, pk_div, rm_n, nI_clamp, vi_, nI_leI, nI_ltI, nI_eq, nI_sb, nI_eqm, nI_meq, Nat.zero_add, Nat.add_zero]
  have inner : ∀ k, k < 6 → ∀ a : Nat, wm_Wp 0 271 155 [.ref 89, .int (nI w), .int (nI (a + htA A k 12)), .int (nI k), .null, .null, .null, .null] μ (fun v ν => ∃ x, v = some (.int x) ∧ Q x ν) → wm_Wp 0 271 22 [.ref 89, .int (nI w), .int (nI a), .int (nI k), .int (nI 0), .null, .null, .null] μ (fun v ν => ∃ x, v = some (.int x) ∧ Q x ν) := by
    intro k hk a hf
    rw [htA_sm] at hf
    have l := loopS (fun h => if hitA A k h = true then 1 else 0) (fun b i => wm_Wp 0 271 22 [.ref 89, .int (nI w), .int (nI (a + b)), .int (nI k), .int (nI i), .null, .null, .null] μ (fun v ν => ∃ x, v = some (.int x) ∧ Q x ν)) 12 (fun i b hi ih => ?_) (w_271_22 _ _ _ _ _ _ ⟨fun _ => hf, fun z => absurd (nI_le (Nat.le_refl 12) (by decide)) z⟩)
    · exact l
    refine w_271_22 _ _ _ _ _ _ ⟨fun z => absurd z (nI_ge (a := i) (b := 12) hi (by decide)), fun _ => ?_⟩
    have no : ¬ hitA A k i = true → wm_Wp 0 271 149 [.ref 89, .int (nI w), .int (nI (a + b)), .int (nI k), .int (nI i), .null, .null, .null] μ (fun v ν => ∃ x, v = some (.int x) ∧ Q x ν) := fun q => by
      refine w_271_149 _ _ _ _ _ _ ?_
      have e : (if hitA A k i = true then 1 else 0) = 0 := if_neg q
      simp only [e] at ih
      rw [nI_1]; exact ih
    have b1 := hB.told (show 12 * k + i < 84 by omega)
    have b2 := hB.told (show 72 + i < 84 by omega)
    have a1 : (240 : Int32) + (((12 : Int32) * nI k) + nI i) = nI (240 + (12 * k + i)) := by simp (disch := omega) only [nl, nI_add, pk_mul, pk_sub, pk_div, rm_n, nI_clamp, vi_, nI_leI, nI_ltI, nI_eq, nI_sb, nI_eqm, nI_meq, Nat.zero_add, Nat.add_zero]
    have a2 : (240 : Int32) + ((72 : Int32) + nI i) = nI (240 + (72 + i)) := by simp (disch := omega) only [nl, nI_add, pk_mul, pk_sub, pk_div, rm_n, nI_clamp, vi_, nI_leI, nI_ltI, nI_eq, nI_sb, nI_eqm, nI_meq, Nat.zero_add, Nat.add_zero]
    have a3 : ((12 : Int32) * nI k) + nI i = nI (12 * k + i) := by simp (disch := omega) only [nl, nI_add, pk_mul, pk_sub, pk_div, rm_n, nI_clamp, vi_, nI_leI, nI_ltI, nI_eq, nI_sb, nI_eqm, nI_meq, Nat.zero_add, Nat.add_zero]
    have a4 : (72 : Int32) + nI i = nI (72 + i) := by simp (disch := omega) only [nl, nI_add, pk_mul, pk_sub, pk_div, rm_n, nI_clamp, vi_, nI_leI, nI_ltI, nI_eq, nI_sb, nI_eqm, nI_meq, Nat.zero_add, Nat.add_zero]
    rw [a1, a2, a3, a4, nI_clamp (by omega), nI_clamp (by omega), hM _ (by omega), hM _ (by omega)]
    have hit := hitA_iff A k i
    rw [tdA_f, tdA_f, show 240 + 12 * k + i = 240 + (12 * k + i) by omega, show 240 + 12 * 6 + i = 240 + (72 + i) by omega, show 72 + 12 * k + i = 72 + (12 * k + i) by omega, show 72 + 12 * 6 + i = 72 + (72 + i) by omega, show 156 + 12 * k + i = 156 + (12 * k + i) by omega, show 156 + 12 * 6 + i = 156 + (72 + i) by omega] at hit
    refine ⟨vp_in_nI (by omega) (by decide), fun z => no (fun q => ?_), fun z => ⟨vp_in_nI (by omega) (by decide), fun y => no (fun q => ?_), fun y => w_271_76 _ _ _ _ _ _ _ _ ?_⟩⟩
    · exact (hit.mp q).1 ((nI_eq (b := 0) (by omega) (by decide)).mp z)
    · exact (hit.mp q).2.1 ((nI_eq (b := 0) (by omega) (by decide)).mp y)
    have z : ¬ A (240 + (12 * k + i)) = 0 := fun q => z (by rw [q]; rfl)
    have y : ¬ A (240 + (72 + i)) = 0 := fun q => y (by rw [q]; rfl)
    have f1 := hB.from (show 12 * k + i < 84 by omega)
    have f2 := hB.from (show 72 + i < 84 by omega)
    have g1 := hB.force (show 12 * k + i < 84 by omega)
    have g2 := hB.force (show 72 + i < 84 by omega)
    have c1 : (156 : Int32) + nI (12 * k + i) = nI (156 + (12 * k + i)) := nI_add 156 _
    have c2 : (156 : Int32) + nI (72 + i) = nI (156 + (72 + i)) := nI_add 156 _
    have c3 : (72 : Int32) + nI (12 * k + i) = nI (72 + (12 * k + i)) := nI_add 72 _
    have c4 : (72 : Int32) + nI (72 + i) = nI (72 + (72 + i)) := nI_add 72 _
    rw [c1, c2, c3, c4, nI_clamp (show 156 + (12 * k + i) < 2 ^ 31 by omega), nI_clamp (show 156 + (72 + i) < 2 ^ 31 by omega), nI_clamp (show 72 + (12 * k + i) < 2 ^ 31 by omega), nI_clamp (show 72 + (72 + i) < 2 ^ 31 by omega), hM _ (show 156 + (12 * k + i) < 2060 by omega), hM _ (show 156 + (72 + i) < 2060 by omega), hM _ (show 72 + (12 * k + i) < 2060 by omega), hM _ (show 72 + (72 + i) < 2060 by omega)]
    have d4 := dif4 _ g1 _ g2
    have hi4 := ap_le _ _ f1 f2
    have no' : ¬ hitA A k i = true → wm_Wp 0 271 149 [.ref 89, .int (nI w), .int (nI (a + b) + 0), .int (nI k), .int (nI i), .null, .null, .null] μ (fun v ν => ∃ x, v = some (.int x) ∧ Q x ν) := fun q => by rw [Int32.add_zero]; exact no q
    refine ⟨vp_in_nI (by omega) (by decide), vp_in_nI (by omega) (by decide), vp_in_nI (by omega) (by decide), vp_in_nI (by omega) (by decide), v_270 _ _ _ _ (s_248 _ _ f1 f2 ⟨_, rfl, fun x => no' (fun q => ?_), fun x => ⟨fun t => no' (fun q => ?_), fun t => ⟨fun u => no' (fun q => ?_), fun u => w_271_149 _ _ _ _ _ _ ?_⟩⟩⟩)⟩
    · have x := (nI_ltI (a := 1) (by decide) (by omega)).mp x
      have := (hit.mp q).2.2.1
      omega
    · exact d4.1.mp t (hit.mp q).2.2.2.1
    · exact d4.2.mp u (hit.mp q).2.2.2.2
    · have x : ¬ 1 < ap (A (72 + (12 * k + i))) (A (72 + (72 + i))) := fun q => x ((nI_ltI (a := 1) (by decide) (by omega)).mpr q)
      have t := Classical.not_not.mp (fun q => t (d4.1.mpr q))
      have u := Classical.not_not.mp (fun q => u (d4.2.mpr q))
      have e : (if hitA A k i = true then 1 else 0) = 1 := if_pos (hit.mpr ⟨z, y, by omega, t, u⟩)
      simp only [e] at ih
      rw [nI_1, nI_1]; exact ih
  refine v_271 _ _ _ ⟨n2, ?_⟩
  rw [e2]
  have g1 : ∀ k a : Nat, k < w / 2 * 2 + 2 → k < 6 → wm_Wp 0 271 8 [.ref 89, .int (nI w), .int (nI (a + htA A k 12)), .int (nI (k + 1)), .null, .null, .null, .null] μ (fun v ν => ∃ x, v = some (.int x) ∧ Q x ν) → wm_Wp 0 271 8 [.ref 89, .int (nI w), .int (nI a), .int (nI k), .null, .null, .null, .null] μ (fun v ν => ∃ x, v = some (.int x) ∧ Q x ν) := fun k a hk hk6 ih => by
    refine w_271_8 _ _ _ _ _ ⟨n2, ?_⟩
    rw [e2, show nI (w / 2 * 2) + (2 : Int32) = nI (w / 2 * 2 + 2) from nI_add _ 2]
    refine ⟨fun z => absurd ((nI_leI (by omega) (by omega)).mp z) (by omega), fun _ => inner k hk6 a (w_271_155 _ _ _ _ _ ?_)⟩
    rw [nI_1]; exact ih
  refine g1 _ 1 (by omega) (by omega) (g1 _ _ (by omega) (by omega) (w_271_8 _ _ _ _ _ ⟨n2, ?_⟩))
  rw [e2, show nI (w / 2 * 2) + (2 : Int32) = nI (w / 2 * 2 + 2) from nI_add _ 2]
  exact ⟨fun _ => w_271_161 _ _ _ ⟨_, rfl, hq⟩, fun z => absurd (nI_le (Nat.le_refl _) (by omega)) z⟩
theorem p_weight (a : Int32) {n : Nat} {μ : wm_M} (h : Rel n μ) : wm_OkI 0 142 [.ref 0, .int a] μ (Pr n 272 [.ref 89, .int a]) := by
  have h' := h
  obtain ⟨A, hA, hO⟩ := h
  have hC := hA.cl (Nat.le_refl n)
  refine v_142 _ _ _ (s_170 ⟨fun z => w_142_21 _ _ (s_161 3 (by decide) ⟨_, rfl, v_272 _ _ _ (s_262 ⟨fun _ => w_272_15 _ _ (s_185 3 (by decide) ⟨_, rfl, rfl, (h'.rf 3).up⟩), fun q => absurd z q⟩)⟩), fun z => ?_⟩)
  obtain ⟨w, hw, rfl⟩ := in_nI 5 (by decide) (nz z)
  exact c_81 w (by omega) hC ⟨_, rfl, v_272 _ _ _ (s_262 ⟨fun q => absurd q z, fun _ => m_271 w (by omega) hA.1 hA.2.2.1 ⟨_, rfl, rfl, h'.up⟩⟩)⟩
