/-! ===== sailed: pure ===== -/
def nxE (f : Nat → Nat) (t : Nat) : Nat → Nat → Nat
  | 0, _ => 999
  | j + 1, hr => if 0 < f hr then max t (10 * hr) + f hr else nxE f t j (hr + 1)
def nE (f : Nat → Nat) (t : Nat) : Nat := nxE f t (12 - hq t) (hq t)
theorem nxE_up {f : Nat → Nat} {t : Nat} : ∀ j hr, t + 1 ≤ 10 * hr → nxE f t j hr = nxE f (t + 1) j hr
  | 0, _, _ => rfl
  | j + 1, hr, h => by
    unfold nxE
    rw [nxE_up j (hr + 1) (by omega), show max t (10 * hr) = max (t + 1) (10 * hr) by omega]
theorem nE_0 {f : Nat → Nat} {t : Nat} (ht : t < 120) (h : f (hq t) = 0) : nE f t = nE f (t + 1) := by
  have e0 : hq t = t / 10 := by unfold hq; exact if_pos ht
  have l0 := hq_lt t
  have u : nE f t = nxE f t (11 - hq t) (hq t + 1) := by
    unfold nE
    rw [show 12 - hq t = (11 - hq t) + 1 by omega]
    conv => lhs; unfold nxE
    rw [if_neg (by omega)]
  rw [u, nxE_up _ _ (by omega)]
  by_cases q : hq (t + 1) = hq t
  · unfold nE
    rw [q, show 12 - hq t = (11 - hq t) + 1 by omega]
    conv => rhs; unfold nxE
    rw [if_neg (by omega)]
  · have : hq (t + 1) = hq t + 1 := by
      rw [e0] at q ⊢
      unfold hq at q ⊢
      by_cases z : t + 1 < 120
      · rw [if_pos z] at q ⊢; omega
      · rw [if_neg z] at q ⊢; omega
    unfold nE
    rw [this, show 12 - (hq t + 1) = 11 - hq t by omega]
theorem nE_s {f : Nat → Nat} {t : Nat} (h : 0 < f (hq t)) : nE f t = max t (10 * hq t) + f (hq t) := by
  have l0 := hq_lt t
  unfold nE
  rw [show 12 - hq t = (11 - hq t) + 1 by omega]
  unfold nxE
  rw [if_pos h]
theorem nxE_le {f : Nat → Nat} {t : Nat} (hf : ∀ hr, f hr ≤ 140) (ht : t ≤ 800) : ∀ j hr, hr + j ≤ 12 → nxE f t j hr ≤ 999
  | 0, _, _ => Nat.le_refl _
  | j + 1, hr, h => by
    have := hf hr
    unfold nxE
    split
    · omega
    · exact nxE_le hf ht j (hr + 1) (by omega)
theorem nE_le {f : Nat → Nat} {t : Nat} (hf : ∀ hr, f hr ≤ 140) (ht : t ≤ 800) : nE f t ≤ 999 := nxE_le hf ht _ _ (by have := hq_lt t; omega)
theorem nxE_ge {f : Nat → Nat} {t : Nat} (ht : 120 ≤ t) (ht8 : t ≤ 800) : ∀ j hr, 120 < nxE f t j hr
  | 0, _ => by unfold nxE; omega
  | j + 1, hr => by
    unfold nxE
    split
    · omega
    · exact nxE_ge ht ht8 j (hr + 1)
theorem nE_ge {f : Nat → Nat} {t : Nat} (ht : 120 ≤ t) (ht8 : t ≤ 800) : 120 < nE f t := nxE_ge ht ht8 _ _
/-- a step is found only where there is one -/
theorem nxE_f {f : Nat → Nat} {t : Nat} : ∀ j hr, nxE f t j hr ≠ 999 → ∃ hr', 0 < f hr'
  | 0, _, h => absurd rfl h
  | j + 1, hr, h => by
    unfold nxE at h
    split at h
    · rename_i q; exact ⟨hr, q⟩
    · exact nxE_f j (hr + 1) h
def sgo (A : Nat → Nat) (ch : Nat) : List Nat → Nat → Nat → Nat → Nat → Nat
  | [], _, _, _, t => t
  | k :: L, c, h, x, t => if 120 < nE (fun hr => stA A 6 1 c (k / 10) (k % 10) hr) (t + ap (k / 10) h + (if k % 10 = x then 0 else ch)) then 999 else sgo A ch L (bsA c (k / 10)) (k / 10) (k % 10) (nE (fun hr => stA A 6 1 c (k / 10) (k % 10) hr) (t + ap (k / 10) h + (if k % 10 = x then 0 else ch)))
theorem nE_bs {A : Nat → Nat} {c h x t : Nat} (q : ¬ 120 < nE (fun hr => stA A 6 1 c h x hr) t) : bsA c h < 36 := by
  have b36 := bsA_lt c h
  have ne : nE (fun hr => stA A 6 1 c h x hr) t ≠ 999 := by omega
  obtain ⟨hr, e⟩ := nxE_f _ _ ne
  have e : 0 < stA A 6 1 c h x hr := e
  refine Nat.lt_of_le_of_ne b36 (fun r => ?_)
  unfold stA at e
  rw [if_pos r] at e
  omega
theorem plW_x {A : Nat → Nat} {w tab ch s0 t0 : Nat} {L : Nat → Nat} (hc0 : 0 < ch) (h : IsLab (stF A w tab) (whA A) ch s0 t0 L) (hx : s0 % 3 < A 2040) (b3 : A 2040 ≤ 3) : ∀ n s, s < 864 → L s ≠ 999 → ∀ k, k ∈ plW (stF A w tab) (whA A) ch L s0 n s → k / 10 < 8 ∧ k % 10 < A 2040
  | 0, _, _, _, k, q => by cases q
  | n + 1, s, hs, h9, k, q => by
    by_cases e : s = s0
    · rw [e, plW_s0] at q; cases q
    · obtain ⟨p1, p2, p3⟩ := prv_ok hc0 h hs e h9
      have sx := lab_x h hx _ s hs (Nat.le_refl _) h9
      have p9 : L (prv (stF A w tab) (whA A) ch L s) ≠ 999 := by
        have := (h.2.1 s hs h9 e).1
        omega
      have ih := plW_x hc0 h hx b3 n _ p1 p9 k
      by_cases z : prv (stF A w tab) (whA A) ch L s / 24 = s / 24
      · rw [plW_in e z] at q; exact ih q
      · rw [plW_out e z] at q
        rcases List.mem_cons.mp q with r | r
        · subst r
          omega
        · exact ih r
/-- the plan's steps in their order, from where the boat was put -/
noncomputable def plO (A : Nat → Nat) (w tab ch : Nat) : Option (List Nat) := (wyA A w tab ch (A 2051) (A 2052) (A 2045)).map (fun r => (plA A w tab ch (A 2051) (A 2052) r.1).reverse)
noncomputable def slA (A : Nat → Nat) (w tab ch : Nat) : Nat := match plO A w tab ch with
  | none => 999
  | some L => sgo A ch L (A 2051 / 24) (A 2051 / 3 % 8) (A 2051 % 3) (A 2052)
theorem sgo_le {A : Nat → Nat} {ch : Nat} : ∀ (L : List Nat) (c h x t : Nat), t ≤ 999 → sgo A ch L c h x t ≤ 999
  | [], _, _, _, t, ht => ht
  | k :: L, c, h, x, t, ht => by
    unfold sgo
    generalize nE (fun hr => stA A 6 1 c (k / 10) (k % 10) hr) (t + ap (k / 10) h + (if k % 10 = x then 0 else ch)) = e
    by_cases q : 120 < e
    · rw [if_pos q]; exact Nat.le_refl _
    · rw [if_neg q]; exact sgo_le L _ _ _ _ (by omega)
theorem plO_x {m : Nat} {A : Nat → Nat} {w tab ch : Nat} (hc0 : 0 < ch) (hB : BA m A) (hX : VX A) (hp : A 2046 = 1) {L : List Nat} (h : plO A w tab ch = some L) : ∀ k, k ∈ L → k / 10 < 8 ∧ k % 10 < A 2040 := by
  have b1 := hB.pst
  have b2 := hB.ptick
  have b3 := hB.sails
  have bm := hB.mark
  have hx := (hX.2.2 hp).2
  unfold plO at h
  cases hw : wyA A w tab ch (A 2051) (A 2052) (A 2045) with
  | none => rw [hw] at h; cases h
  | some r =>
    rw [hw] at h
    have h : some (plA A w tab ch (A 2051) (A 2052) r.1).reverse = some L := h
    injection h with h
    subst h
    intro k q
    rw [List.mem_reverse] at q
    have o := wy_b hc0 b1 (by omega) hx bm hw
    exact plW_x hc0 (labF_is hc0 b1 (by omega)) hx (by omega) 121 r.1 o.1 (by have := o.2.2.1; unfold LF at this; omega) k q
theorem getD_rev {L : List Nat} {j : Nat} (h : j < L.length) : L.reverse.getD j 0 = L.getD (L.length - 1 - j) 0 := by
  rw [List.getD_eq_getElem?_getD, List.getD_eq_getElem?_getD, List.getElem?_reverse h]
theorem getD_mid {K R : List Nat} {k : Nat} : (K ++ k :: R).getD K.length 0 = k := by
  rw [List.getD_eq_getElem?_getD, List.getElem?_append_right (Nat.le_refl _)]
  simp
/-! ===== class: endOfNextStep, sailPlan ===== -/
theorem c_23 {m : Nat} {A : Nat → Nat} (w tab c h x t : Nat) (hw : w < 7) (hc : c < 36) (hh : h < 8) (hx : x < A 2040) (ht : t < 800) {μ : wm_M} {Q : Int32 → wm_M → Prop} (hC : Chd m A w tab μ) (hk : Q (nI (nE (fun hr => stA A w tab c h x hr) t)) μ) : wm_OkI 0 23 [.ref 62, .int (nI c), .int (nI h), .int (nI x), .int (nI t)] μ Q := by
  obtain ⟨g1, g2, g3, g4⟩ := hC
  have l0 := hq_lt t
  have lp : ∀ j hr, hr + j = 12 → nxE (fun hr => stA A w tab c h x hr) t j hr = nE (fun hr => stA A w tab c h x hr) t → wm_Wp 0 23 7 [.ref 62, .int (nI c), .int (nI h), .int (nI x), .int (nI t), .int (nI hr), .null] μ (fun w κ => ∃ x, w = some (.int x) ∧ Q x κ) := by
    intro j
    induction j with
    | zero =>
      intro hr hj e
      have : hr = 12 := by omega
      subst this
      refine w_23_7 _ _ _ _ _ _ _ ⟨fun _ => w_23_50 _ _ ⟨_, rfl, ?_⟩, fun q => absurd (nI_le (Nat.le_refl 12) (by decide)) q⟩
      rw [← e] at hk
      exact hk
    | succ j ih =>
      intro hr hj e
      have sl := stA_le A w tab c h x hr
      refine w_23_7 _ _ _ _ _ _ _ ⟨fun q => absurd q (nI_ge (a := hr) (b := 12) (by omega) (by decide)), fun _ => c_22 w tab c h x hr hw hc hh hx (by omega) g1 g2 g3 g4 ⟨fun z => w_23_44 _ _ _ _ _ _ _ ?_, fun z => ⟨_, rfl, ?_⟩⟩⟩
      · have z := (nI_leI (b := 0) (by omega) (by decide)).mp z
        rw [nI_1]
        refine ih (hr + 1) (by omega) ?_
        unfold nxE at e
        rw [if_neg (by omega)] at e
        exact e
      · have z : 0 < stA A w tab c h x hr := Nat.lt_of_not_le (fun r => z ((nI_leI (b := 0) (by omega) (by decide)).mpr r))
        unfold nxE at e
        rw [if_pos z] at e
        rw [show nI hr * (10 : Int32) = nI (10 * hr) by simp (disch := omega) only [nl, nI_add, pk_mul, pk_sub, pk_div, rm_n, nI_clamp, vi_, nI_leI, nI_ltI, nI_eq, nI_sb, nI_eqm, nI_meq, Nat.zero_add, Nat.add_zero]; rw [Nat.mul_comm], maxI (by omega) (by omega), nI_add, e]
        exact hk
  exact v_23 _ _ _ _ _ _ (s_180 t (by omega) (lp (12 - hq t) (hq t) (by omega) rfl))
theorem c_57 {m : Nat} {A : Nat → Nat} (s ch : Nat) (L : List Nat) (hs : s < 8) (hch : ch < 300) (hL : L.length ≤ 120) (hx : ∀ k, k ∈ L → k / 10 < 8 ∧ k % 10 < A 2040) {μ : wm_M} {Q : Int32 → wm_M → Prop} (hC : Chd m A 6 1 μ) (h83 : μ.1 83 s = nI L.length) (h82 : ∀ j, j < L.length → μ.1 82 (121 * s + j) = nI (L.getD j 0)) (hk : Q (nI (sgo A ch L (A 2051 / 24) (A 2051 / 3 % 8) (A 2051 % 3) (A 2052))) μ) : wm_OkI 0 57 [.ref 81, .int (nI s), .int (nI ch)] μ Q := by
  have b1 := hC.1.1.pst
  have b2 := hC.1.1.ptick
  have b3 := hC.1.1.sails
  have vs : vp_in (nI s) 8 := vp_in_nI hs (by decide)
  have cs : (nI s).toNatClampNeg = s := nI_clamp (by omega)
  have n3 : ¬ (3 : Int32) = 0 := by decide
  have n8 : ¬ (8 : Int32) = 0 := by decide
  have n24 : ¬ (24 : Int32) = 0 := by decide
  have lp : ∀ (R K : List Nat) c h x t, L = K ++ R → c < 36 → h < 8 → x < 3 → t ≤ 120 → sgo A ch R c h x t = sgo A ch L (A 2051 / 24) (A 2051 / 3 % 8) (A 2051 % 3) (A 2052) → wm_Wp 0 57 74 [.ref 81, .int (nI s), .int (nI ch), .int (nI x), .int (nI h), .int (nI c), .int (nI t), .int (nI K.length), .null] μ (fun w κ => ∃ x, w = some (.int x) ∧ Q x κ) := by
    intro R
    induction R with
    | nil =>
      intro K c h x t eL hc hh hx3 ht e
      rw [List.append_nil] at eL
      refine w_57_74 _ _ _ _ _ _ _ _ _ ⟨vs, ?_⟩
      rw [cs, h83, ← eL]
      refine ⟨fun _ => w_57_194 _ _ _ ⟨_, rfl, ?_⟩, fun q => absurd (nI_le (Nat.le_refl _) (by omega)) q⟩
      rw [← e] at hk
      exact hk
    | cons k R ih =>
      intro K c h x t eL hc hh hx3 ht e
      have len : L.length = K.length + (R.length + 1) := by rw [eL, List.length_append, List.length_cons]
      obtain ⟨k1, k2⟩ := hx k (by rw [eL]; exact List.mem_append.mpr (Or.inr List.mem_cons_self))
      have kb : k < 100 := by omega
      have e82 : μ.1 82 (121 * s + K.length) = nI k := by rw [h82 _ (by omega), eL, getD_mid]
      have ed : nI k / (10 : Int32) = nI (k / 10) := dv10 (by omega)
      have er : nI k - nI (k / 10) * (10 : Int32) = nI (k % 10) := by rw [← ed]; exact pk_rem (d := 10) (by omega) (by decide) (by decide)
      have al := ap_le h (k / 10) hh k1
      have sy := ap_sym h hh (k / 10) k1
      refine w_57_74 _ _ _ _ _ _ _ _ _ ⟨vs, ?_⟩
      rw [cs, h83, show nI s * (121 : Int32) + nI K.length = nI (121 * s + K.length) by simp (disch := omega) only [nl, nI_add, pk_mul, pk_sub, pk_div, rm_n, nI_clamp, vi_, nI_leI, nI_ltI, nI_eq, nI_sb, nI_eqm, nI_meq, Nat.zero_add, Nat.add_zero]; rw [Nat.mul_comm], nI_clamp (show 121 * s + K.length < 2 ^ 31 by omega), e82, ed, er]
      -- the step
      have go : ∀ t1, t1 = t + ap (k / 10) h + (if k % 10 = x then 0 else ch) → wm_OkI 0 23 [.ref 62, .int (nI c), .int (nI (k / 10)), .int (nI (k % 10)), .int (nI t1)] μ (fun r4 μ3 => wm_OkI 0 182 [.int (nI c), .int (nI (k / 10))] μ3 (fun r6 μ5 => (((120 : Int32) < r4 → wm_Wp 0 57 184 [.null, .null, .null, .null, .null, .null, .null, .null, .null] μ5 (fun w κ => ∃ x, w = some (.int x) ∧ Q x κ)) ∧ (¬ (120 : Int32) < r4 → ((r6 = (-1 : Int32) → wm_Wp 0 57 184 [.null, .null, .null, .null, .null, .null, .null, .null, .null] μ5 (fun w κ => ∃ x, w = some (.int x) ∧ Q x κ)) ∧ (¬ r6 = (-1 : Int32) → wm_Wp 0 57 188 [.ref 81, .int (nI s), .int (nI ch), .int (nI (k % 10)), .int (nI (k / 10)), .int r6, .int r4, .int (nI K.length), .null] μ5 (fun w κ => ∃ x, w = some (.int x) ∧ Q x κ))))))) := fun t1 ht1 => by
        have tl : t1 < 800 := by rw [ht1]; split <;> omega
        have nl' := nE_le (f := fun hr => stA A 6 1 c (k / 10) (k % 10) hr) (t := t1) (fun hr => stA_le _ _ _ _ _ _ _) (by omega)
        refine c_23 6 1 c (k / 10) (k % 10) t1 (by decide) hc k1 k2 tl hC (c_182 c (k / 10) hc k1 ?_)
        have e' : sgo A ch (k :: R) c h x t = if 120 < nE (fun hr => stA A 6 1 c (k / 10) (k % 10) hr) t1 then 999 else sgo A ch R (bsA c (k / 10)) (k / 10) (k % 10) (nE (fun hr => stA A 6 1 c (k / 10) (k % 10) hr) t1) := by
          rw [ht1]; rfl
        by_cases q : 120 < nE (fun hr => stA A 6 1 c (k / 10) (k % 10) hr) t1
        · rw [if_pos q] at e'
          refine ⟨fun _ => w_57_184 _ _ ⟨_, rfl, ?_⟩, fun z => absurd ((nI_ltI (a := 120) (by decide) (by omega)).mpr q) z⟩
          rw [← e, e'] at hk
          exact hk
        · rw [if_neg q] at e'
          have b36 := nE_bs q
          rw [show bsI c (k / 10) = nI (bsA c (k / 10)) by unfold bsI; exact if_neg (by omega)]
          refine ⟨fun z => absurd ((nI_ltI (a := 120) (by decide) (by omega)).mp z) q, fun _ => ⟨fun z => absurd z (nI_n1 (by omega)), fun _ => w_57_188 _ _ _ _ _ _ _ _ _ ?_⟩⟩
          rw [nI_1, show K.length + 1 = (K ++ [k]).length by simp]
          exact ih (K ++ [k]) _ _ _ _ (by rw [eL]; simp) b36 k1 (by omega) (by omega) (e'.symm.trans e)
      refine ⟨fun q => absurd q (nI_ge (by omega) (by omega)), fun _ => ⟨vp_in_nI (by omega) (by decide), n10, s_181 h (k / 10) hh k1 ⟨n10, fun q => ⟨n10, n10, ?_⟩, fun q => ⟨n10, n10, ?_⟩⟩⟩⟩
      · have q := (nI_eq (by omega) (by omega)).mp q
        rw [nI_add, show (0 : Int32) = nI 0 from rfl, nI_add]
        exact go _ (by rw [if_pos q.symm, sy])
      · have q : ¬ k % 10 = x := fun r => q (by rw [r])
        rw [nI_add, nI_add]
        exact go _ (by rw [if_neg q, sy])
  refine v_57 _ _ _ _ ⟨vs, ?_⟩
  rw [cs, h83]
  refine ⟨fun q => absurd q (fun q => (nI_eqm (b := 1) (by omega) (by decide) (by decide)).mp q), fun _ => w_57_14 _ _ _ _ ?_⟩
  rw [hC.1.2.2.1.pst, hC.1.2.2.1.ptick, show nI (A 2051) - nI (A 2051) / (3 : Int32) * (3 : Int32) = nI (A 2051 % 3) from pk_rem (d := 3) (by omega) (by decide) (by decide), show nI (A 2051) / (24 : Int32) = nI (A 2051 / 24) from pk_div (d := 24) (by omega) (by decide) (by decide), show nI (A 2051) / (3 : Int32) = nI (A 2051 / 3) from pk_div (d := 3) (by omega) (by decide) (by decide), show nI (A 2051 / 3) - nI (A 2051 / 3) / (8 : Int32) * (8 : Int32) = nI (A 2051 / 3 % 8) from pk_rem (d := 8) (by omega) (by decide) (by decide)]
  exact ⟨n3, n3, n8, n24, lp L [] _ _ _ _ rfl (by omega) (by omega) (by omega) (by omega) rfl⟩
