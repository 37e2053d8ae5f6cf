/-! ===== class: comes ===== -/
theorem wy_ok {A : Nat → Nat} {w tab ch s0 t0 c s T : Nat} (hc0 : 0 < ch) (hs0 : s0 < 864) (ht0 : t0 ≤ 120) (hx : s0 % 3 < A 2040) (hc : c < 36) (h : wyA A w tab ch s0 t0 c = some (s, T)) : s < 864 ∧ s / 24 = c ∧ LF A w tab ch s0 t0 s = T ∧ t0 ≤ T ∧ T ≤ 120 ∧ s % 3 < A 2040 := by
  have isL : IsLab (stF A w tab) (whA A) ch s0 t0 (LF A w tab ch s0 t0) := labF_is hc0 hs0 ht0
  rw [eo_wy] at h
  cases ho : eo (LF A w tab ch s0 t0) c 24 with
  | none => rw [ho] at h; cases h
  | some p =>
    rw [ho] at h
    obtain ⟨r1, r2, r3⟩ := eo_in 24 ho
    have h : some (p, LF A w tab ch s0 t0 p) = some (s, T) := h
    injection h with h
    injection h with e1 e2
    subst e1
    have hp : p < 864 := by omega
    refine ⟨hp, by omega, e2, by rw [← e2]; exact (lab_t0 isL ht0 _ p hp (Nat.le_refl _)).1, ?_, lab_x isL hx _ p hp (Nat.le_refl _) r3⟩
    by_cases e : p = s0
    · rw [← e2, e, isL.1]; exact ht0
    · rw [← e2]; exact (isL.2.1 p hp r3 e).1
theorem c_17r {n : Nat} {A : Nat → Nat} {μ : wm_M} {Q : wm_M → Prop} (hA : RA n A μ) (hO : RO n μ) (hk : ∀ ν, RA n A ν → RO n ν → askd A ν → Fz μ ν → Q ν) : wm_OkV 0 17 [.ref 62] μ Q := by
  refine c_17 hA (fun ν hC hK z hF h8 => ?_)
  have hZ : Fz μ ν := fun d a b c e f g i j => hF d a b e f c
  have z75 : ν.1 75 = μ.1 75 := hF 75 (by decide) (by decide) (by decide) (by decide) (by decide)
  refine hk ν ⟨hA.1, hA.2.1, hA.2.2.1.kq hZ.kq, hC.2.2, fun _ => hK, fun w tab a b e => ?_, fun q => ?_⟩ (hO.kq hZ.kq) hK hZ
  · exact drwn_of (hF 65 (by decide) (by decide) (by decide) (by decide) (by decide)) (hF 66 (by decide) (by decide) (by decide) (by decide) (by decide)) (hF 67 (by decide) (by decide) (by decide) (by decide) (by decide)) (hA.2.2.2.2.2.1 w tab a b (h8.symm.trans e))
  · rw [z75] at q
    exact wrkd_of (hF 76 (by decide) (by decide) (by decide) (by decide) (by decide)) (hF 77 (by decide) (by decide) (by decide) (by decide) (by decide)) (hF 78 (by decide) (by decide) (by decide) (by decide) (by decide)) (hA.2.2.2.2.2.2 q)
theorem c_19r {n : Nat} {A : Nat → Nat} (w tab : Nat) (hw : w < 7) (ht : tab < 2) {μ : wm_M} {Q : wm_M → Prop} (hA : RA n A μ) (hO : RO n μ) (hK : askd A μ) (hk : ∀ ν, RA n A ν → RO n ν → Chd n A w tab ν → Fz μ ν → Q ν) : wm_OkV 0 19 [.ref 62, .int (nI w), .int (nI tab)] μ Q := by
  refine c_19 w tab hw ht (hA.cl (Nat.le_refl n)) hA.2.2.2.2.2.1 (fun κ hD e8 hG e7 => ?_)
  have hZ : Fz μ κ := fun d a b c e f g i j => hG d g i j c
  have hK' : askd A κ := askd_of (hG 63 (by decide) (by decide) (by decide) (by decide)) (hG 64 (by decide) (by decide) (by decide) (by decide)) hK
  have z75 : κ.1 75 = μ.1 75 := hG 75 (by decide) (by decide) (by decide) (by decide)
  have hO' := hO.kq hZ.kq
  have hC' := (hA.cl (Nat.le_refl n)).kq hZ.kq
  refine hk κ ⟨hA.1, hA.2.1, hA.2.2.1.kq hZ.kq, hC'.2.2, fun _ => hK', fun w' tab' a b e => ?_, fun q => ?_⟩ hO' ⟨hC', hK', hD, hO'.2.2.2.2⟩ hZ
  · have := (nI_eq (by omega) (by omega)).mp (e8.symm.trans e)
    have e1 : w' = w := by omega
    have e2 : tab' = tab := by omega
    subst e1; subst e2
    exact hD
  · rw [z75] at q
    exact wrkd_of (hG 76 (by decide) (by decide) (by decide) (by decide)) (hG 77 (by decide) (by decide) (by decide) (by decide)) (hG 78 (by decide) (by decide) (by decide) (by decide)) (hA.2.2.2.2.2.2 q)
theorem maxI {a b : Nat} (ha : a < 2 ^ 31) (hb : b < 2 ^ 31) : (if nI a < nI b then nI b else nI a) = nI (max a b) := by
  by_cases q : a < b
  · rw [if_pos ((nI_ltI ha hb).mpr q), show max a b = b by omega]
  · rw [if_neg (fun r => q ((nI_ltI ha hb).mp r)), show max a b = a by omega]
theorem c_29 {m : Nat} {A : Nat → Nat} (w ch s t q : Nat) (hw : w < 7) (hs : s < 864) (ht : t ≤ 120) (hc0 : 0 < ch) (hch : ch < 10000) (hx : s % 3 < A 2040) (hq3 : q < 3) {μ : wm_M} {Q : Int32 → wm_M → Prop} (hC : Chd m A w 1 μ) (hk : ∀ ν, F7 μ ν → Q (nI (cm2A A w ch s t q)) ν) : wm_OkI 0 29 [.ref 75, .int (nI s), .int (nI t), .int (nI q), .int (nI ch)] μ Q := by
  have bf := hC.1.1.first
  have bs := hC.1.1.second
  have bm := hC.1.1.mark
  have bc := hC.1.1.choice hq3
  refine v_29 _ _ _ _ _ _ ⟨vp_in_nI hq3 (by decide), ?_⟩
  rw [hC.1.2.2.1.first, maxI (by omega) (by omega), nI_clamp (show q < 2 ^ 31 by omega), hC.1.2.2.1.choice hq3]
  have m1 : max t (A 2043) ≤ 120 := by omega
  unfold cm2A at hk
  refine c_107 w 1 ch s (max t (A 2043)) (A (2001 + q)) hw hs m1 hc0 hch hx bc hC (fun ν k1 k2 => ⟨fun _ => ⟨_, rfl, ?_⟩, fun z => absurd rfl z⟩) (fun ν ℓ s' T k1 k2 k3 k4 k5 k6 k7 k8 k9 => ⟨fun z => absurd z (nI_n1 k5), fun _ => w_29_46 _ _ _ _ ⟨vp_in_nI k5 (by decide), ?_⟩⟩)
  · have := hk ν k1
    rw [k2] at this
    exact this
  · have hC' := hC.f7 k1
    obtain ⟨_, _, _, _, _, x6⟩ := wy_ok hc0 hs m1 hx bc k4
    rw [nI_clamp (show s' < 2 ^ 31 by omega), (k2 s' k5).2, k8, hC'.1.2.2.1.second, maxI (by omega) (by omega), hC'.1.2.2.1.mark]
    have m2 : max T (A 2044) ≤ 120 := by omega
    rw [k4] at hk
    refine c_107 w 1 ch s' (max T (A 2044)) (A 2045) hw k5 m2 hc0 hch x6 bm hC' (fun κ j1 j2 => ⟨fun _ => ⟨_, rfl, ?_⟩, fun z => absurd rfl z⟩) (fun κ ℓ' s2 T2 j1 j2 j3 j4 j5 j6 j7 j8 j9 => ⟨fun z => absurd z (nI_n1 j5), fun _ => w_29_105 _ _ _ ⟨vp_in_nI j5 (by decide), _, rfl, ?_⟩⟩)
    · have := hk κ (k1.tr j1)
      simp only [j2] at this
      exact this
    · have := hk κ (k1.tr j1)
      simp only [j4] at this
      rw [nI_clamp (show s2 < 2 ^ 31 by omega), (j2 s2 j5).2, j8]
      exact this
theorem c_28 {n : Nat} {A : Nat → Nat} (w ch c q : Nat) (hw : w < 7) (hc0 : 0 < ch) (hch : ch < 10000) (hc3 : c < 3) (hq3 : q < 3) {μ : wm_M} {Q : Int32 → wm_M → Prop} (hA : RA n A μ) (hO : RO n μ) (hK : askd A μ) (hp : A 2046 = 1) (hk : ∀ ν, RA n A ν → RO n ν → Q (nI (cmA A w ch c q)) ν) : wm_OkI 0 28 [.ref 75, .int (nI w), .int (nI c), .int (nI q), .int (nI ch)] μ Q := by
  have bt := hA.1.tick
  have bc := hA.1.choice hc3
  have hx := bst_x hA.1 hA.2.1 hp
  have hs0 := bst_lt hA.1
  refine v_28 _ _ _ _ _ _ (c_19r w 1 hw (by decide) hA hO hK (fun ν hAν hOν hC _ => c_2 hC.1 ⟨vp_in_nI hc3 (by decide), ?_⟩))
  rw [nI_clamp (show c < 2 ^ 31 by omega), hC.1.2.2.1.tick, hC.1.2.2.1.choice hc3]
  unfold cmA at hk
  refine c_107 w 1 ch (bstA A) (A 2050) (A (2001 + c)) hw hs0 (by omega) hc0 hch hx bc hC (fun κ k1 k2 => ⟨fun _ => ⟨_, rfl, ?_⟩, fun z => absurd rfl z⟩) (fun κ ℓ s' T k1 k2 k3 k4 k5 k6 k7 k8 k9 => ⟨fun z => absurd z (nI_n1 k5), fun _ => w_28_61 _ _ _ _ _ ⟨vp_in_nI k5 (by decide), ?_⟩⟩)
  · have := hk κ (hAν.f7 k1) (hOν.f7 k1)
    rw [k2] at this
    exact this
  · obtain ⟨_, _, _, _, _, x6⟩ := wy_ok hc0 hs0 (by omega) hx bc k4
    rw [nI_clamp (show s' < 2 ^ 31 by omega), (k2 s' k5).2, k8]
    refine c_29 w ch s' T q hw k5 k7 hc0 hch x6 hq3 (hC.f7 k1) (fun ξ j => ⟨_, rfl, ?_⟩)
    have := hk ξ ((hAν.f7 k1).f7 j) ((hOν.f7 k1).f7 j)
    rw [k4] at this
    exact this
