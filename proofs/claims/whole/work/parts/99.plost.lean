/-! ===== share; lost ===== -/
def pc8 (s : Nat) : Nat := s % 2 + s / 2 % 2 + s / 4 % 2
theorem s_314 (s : Nat) (hs : s < 8) {μ : wm_M} {Q : Int32 → wm_M → Prop} (h : Q (nI (pc8 s)) μ) : wm_OkI 0 314 [.int (nI s)] μ Q := by
  refine v_314 _ _ _ ⟨_, rfl, ?_⟩
  have : s = 0 ∨ s = 1 ∨ s = 2 ∨ s = 3 ∨ s = 4 ∨ s = 5 ∨ s = 6 ∨ s = 7 := by omega
  rcases this with rfl | rfl | rfl | rfl | rfl | rfl | rfl | rfl
  · exact Eq.mpr (congrArg (fun x => Q x μ) (by decide +kernel)) h
  · exact Eq.mpr (congrArg (fun x => Q x μ) (by decide +kernel)) h
  · exact Eq.mpr (congrArg (fun x => Q x μ) (by decide +kernel)) h
  · exact Eq.mpr (congrArg (fun x => Q x μ) (by decide +kernel)) h
  · exact Eq.mpr (congrArg (fun x => Q x μ) (by decide +kernel)) h
  · exact Eq.mpr (congrArg (fun x => Q x μ) (by decide +kernel)) h
  · exact Eq.mpr (congrArg (fun x => Q x μ) (by decide +kernel)) h
  · exact Eq.mpr (congrArg (fun x => Q x μ) (by decide +kernel)) h
def shC (f : Nat → Int32) (r : Nat) : Nat → Int32
  | 0 => 0
  | s + 1 => if s &&& r = 0 then (if pc8 s = 1 then shC f r s + ((1 : Int32) * (f s - f (s ||| r))) else shC f r s + ((2 : Int32) * (f s - f (s ||| r)))) else shC f r s
theorem and8 : ∀ s, s < 8 → ∀ r, r < 8 → (nI s &&& nI r = nI (s &&& r) ∧ s &&& r < 8) := by decide +kernel
theorem or8 : ∀ s, s < 8 → ∀ r, r < 8 → (nI s ||| nI r = nI (s ||| r) ∧ s ||| r < 8) := by decide +kernel
theorem c_58 (r : Nat) (hr : r < 8) {μ : wm_M} {Q : Int32 → wm_M → Prop} (h : Q (shC (μ.1 84) r 8) μ) : wm_OkI 0 58 [.ref 81, .int (nI r)] μ Q := by
  have lp : ∀ j s, s + j = 8 → wm_Wp 0 58 4 [.ref 81, .int (nI r), .int (shC (μ.1 84) r s), .int (nI s), .null] μ (fun w κ => ∃ x, w = some (.int x) ∧ Q x κ) := by
    intro j
    induction j with
    | zero =>
      intro s hj
      have : s = 8 := by omega
      subst this
      exact w_58_4 _ _ _ _ _ ⟨fun _ => w_58_58 _ _ _ ⟨_, rfl, h⟩, fun q => absurd (nI_le (Nat.le_refl 8) (by decide)) q⟩
    | succ j ih =>
      intro s hj
      have hs : s < 8 := by omega
      obtain ⟨a1, a2⟩ := and8 s hs r hr
      obtain ⟨o1, o2⟩ := or8 s hs r hr
      have vs : vp_in (nI s) 8 := vp_in_nI hs (by decide)
      have vo : vp_in (nI (s ||| r)) 8 := vp_in_nI o2 (by decide)
      have pl : pc8 s ≤ 3 := by unfold pc8; omega
      have go : ∀ x, x = shC (μ.1 84) r (s + 1) → wm_Wp 0 58 52 [.ref 81, .int (nI r), .int x, .int (nI s), .null] μ (fun w κ => ∃ x, w = some (.int x) ∧ Q x κ) := fun x hx => by
        subst hx
        refine w_58_52 _ _ _ _ _ ?_
        rw [nI_1]
        exact ih (s + 1) (by omega)
      refine w_58_4 _ _ _ _ _ ⟨fun q => absurd q (nI_ge (a := s) (b := 8) (by omega) (by decide)), fun _ => ?_⟩
      rw [a1, o1, nI_clamp (show s < 2 ^ 31 by omega), nI_clamp (show s ||| r < 2 ^ 31 by omega)]
      refine ⟨fun z => s_314 s hs ⟨fun y => ⟨vs, vo, go _ ?_⟩, fun y => w_58_28 _ _ _ _ _ ?_⟩, fun z => go _ ?_⟩
      · have z := (nI_eq (b := 0) (by omega) (by decide)).mp z
        have y := (nI_eq (b := 1) (by omega) (by decide)).mp y
        conv => rhs; unfold shC
        rw [if_pos z, if_pos y]
      · have z := (nI_eq (b := 0) (by omega) (by decide)).mp z
        have y : ¬ pc8 s = 1 := fun r => y (by rw [r]; rfl)
        rw [o1, nI_clamp (show s < 2 ^ 31 by omega), nI_clamp (show s ||| r < 2 ^ 31 by omega)]
        refine ⟨vs, vo, go _ ?_⟩
        conv => rhs; unfold shC
        rw [if_pos z, if_neg y]
      · have z : ¬ s &&& r = 0 := fun q => z (by rw [q]; rfl)
        conv => rhs; unfold shC
        rw [if_neg z]
  exact v_58 _ _ _ (lp 8 0 rfl)
theorem sh_1 (f : Nat → Int32) : shC f 1 8 = ((((((2 : Int32) * (f 0 - f 1)) + f 2) - f 3) + f 4) - f 5) + ((2 : Int32) * (f 6 - f 7)) := by
  show (((0 : Int32) + (2 : Int32) * (f 0 - f 1)) + (1 : Int32) * (f 2 - f 3) + (1 : Int32) * (f 4 - f 5)) + (2 : Int32) * (f 6 - f 7) = _
  grind
theorem sh_2 (f : Nat → Int32) : shC f 2 8 = ((((((2 : Int32) * (f 0 - f 2)) + f 4) - f 6) + f 1) - f 3) + ((2 : Int32) * (f 5 - f 7)) := by
  show (((0 : Int32) + (2 : Int32) * (f 0 - f 2)) + (1 : Int32) * (f 1 - f 3) + (1 : Int32) * (f 4 - f 6)) + (2 : Int32) * (f 5 - f 7) = _
  grind
theorem sh_4 (f : Nat → Int32) : shC f 4 8 = ((((((2 : Int32) * (f 0 - f 4)) + f 1) - f 5) + f 2) - f 6) + ((2 : Int32) * (f 3 - f 7)) := by
  show (((0 : Int32) + (2 : Int32) * (f 0 - f 4)) + (1 : Int32) * (f 1 - f 5) + (1 : Int32) * (f 2 - f 6)) + (2 : Int32) * (f 3 - f 7) = _
  grind
theorem m_300 (k : Nat) (hk : k < 3) {μ : wm_M} {Q : Int32 → wm_M → Prop} (h : Q (shC (μ.1 109) (2 ^ k) 8) μ) : wm_OkI 0 300 [.ref 89, .int (nI k)] μ Q := by
  have n3 : ¬ (3 : Int32) = 0 := by decide
  have : k = 0 ∨ k = 1 ∨ k = 2 := by omega
  rcases this with rfl | rfl | rfl
  · rw [show 2 ^ 0 = 1 from rfl, sh_1] at h
    exact v_300 _ _ _ ⟨n3, n3, by unfold vp_in; decide +kernel, by unfold vp_in; decide +kernel, by unfold vp_in; decide +kernel, by unfold vp_in; decide +kernel, by unfold vp_in; decide +kernel, by unfold vp_in; decide +kernel, by unfold vp_in; decide +kernel, by unfold vp_in; decide +kernel, _, rfl, h⟩
  · rw [show 2 ^ 1 = 2 from rfl, sh_2] at h
    exact v_300 _ _ _ ⟨n3, n3, by unfold vp_in; decide +kernel, by unfold vp_in; decide +kernel, by unfold vp_in; decide +kernel, by unfold vp_in; decide +kernel, by unfold vp_in; decide +kernel, by unfold vp_in; decide +kernel, by unfold vp_in; decide +kernel, by unfold vp_in; decide +kernel, _, rfl, h⟩
  · rw [show 2 ^ 2 = 4 from rfl, sh_4] at h
    exact v_300 _ _ _ ⟨n3, n3, by unfold vp_in; decide +kernel, by unfold vp_in; decide +kernel, by unfold vp_in; decide +kernel, by unfold vp_in; decide +kernel, by unfold vp_in; decide +kernel, by unfold vp_in; decide +kernel, by unfold vp_in; decide +kernel, by unfold vp_in; decide +kernel, _, rfl, h⟩
theorem sh_congr {f g : Nat → Int32} {r : Nat} (hr : r < 8) (h : ∀ s, s < 8 → f s = g s) : ∀ s, s ≤ 8 → shC f r s = shC g r s
  | 0, _ => rfl
  | s + 1, hs => by
    have o := (or8 s (by omega) r hr).2
    unfold shC
    rw [sh_congr hr h s (by omega), h s (by omega), h _ o]
theorem p_lost (a b : Int32) {n : Nat} (hn : n < 8000) {μ : wm_M} (h : Rel n μ) : wm_OkI 0 151 [.ref 0, .int a, .int b] μ (Pr n 301 [.ref 89, .int a, .int b]) := by
  have h' := h
  obtain ⟨A, hA, hO⟩ := h
  have hM := hA.2.2.1
  have hV := hA.2.2.2.1.2.2.rv
  have b2 := hA.1.ptick
  have hMr : ∀ k, RM 91 A (wm_si μ 88 k (μ.1 88 k + 1)) := fun k => hM.fr rfl
  have e6 : ∀ {ν : wm_M}, RM 91 A ν → ν.1 91 (2040 + 6) = nI (A 2046) := fun h => h 2046 (by decide)
  have e12 : ∀ {ν : wm_M}, RM 91 A ν → ν.1 91 (2040 + 12) = nI (A 2052) := fun h => h 2052 (by decide)
  refine v_151 _ _ _ _ ?_
  rw [hA.2.2.2.1.1.put]
  refine ⟨fun z => s_161 2 (by decide) ⟨_, rfl, v_301 _ _ _ _ (s_188 6 (by decide) ⟨fun _ => s_185 2 (by decide) ⟨_, rfl, rfl, (h'.rf 2).up⟩, fun q => absurd ((e6 (hMr 2)).trans z) q⟩)⟩, fun z => w_151_20 _ _ _ _ (s_170 ⟨fun q => s_161 3 (by decide) ⟨_, rfl, v_301 _ _ _ _ (s_188 6 (by decide) ⟨fun y => absurd ((e6 (hMr 3)).symm.trans y) z, fun _ => w_301_16 _ _ _ _ (s_262 ⟨fun _ => s_185 3 (by decide) ⟨_, rfl, rfl, (h'.rf 3).up⟩, fun y => absurd (nz y) (bI_0.mp q)⟩)⟩)⟩, fun q => w_151_34 _ _ _ _ (s_178 ⟨fun r => s_161 7 (by decide) ⟨_, rfl, v_301 _ _ _ _ (s_188 6 (by decide) ⟨fun y => absurd ((e6 (hMr 7)).symm.trans y) z, fun _ => w_301_16 _ _ _ _ (s_262 ⟨fun y => absurd (nz q) (bI_0.mp y), fun _ => w_301_30 _ _ _ _ (s_184 ⟨fun _ => s_185 7 (by decide) ⟨_, rfl, rfl, (h'.rf 7).up⟩, fun y => absurd (nz y) (bI_0.mp r)⟩)⟩)⟩)⟩, fun r => w_151_50 _ _ _ _ ?_⟩)⟩)⟩
  obtain ⟨w, hw, rfl⟩ := in_nI 5 (by decide) (nz q)
  obtain ⟨k, hk, rfl⟩ := in_nI 4 (by decide) (nz r)
  have hp : A 2046 = 1 := put_01 hA.1 (fun q => z (by rw [q]; rfl))
  refine c_17r hA hO (fun μ1 hA1 hO1 hK1 _ => c_49 (hA1.cl (Nat.le_refl n)) (fun μ2 hF2 => ?_))
  have hA2 : RA n A μ2 := hA1.sm (hF2.sm (fun _ => rfl) (fun _ => rfl))
  have hO2 : RO n μ2 := hO1.sm (hF2.sm (fun _ => rfl) (fun _ => rfl))
  refine c_55 w (by omega) hA2 hO2 (askd_of (hF2 63 (by decide) (by decide)) (hF2 64 (by decide) (by decide)) hK1) hp (fun μ4 hA4 hO4 h84 => ?_)
  have hR4 : Rel n μ4 := ⟨A, hA4, hO4⟩
  -- the reference's side
  have key : ∀ x, (∀ ν, (∀ s, s < 8 → ν.1 109 s = nI (sdA A w s)) → Rel (n + 1) ν → wm_Wp 0 301 82 [.ref 89, .null, .int (nI k), .null] ν (fun v κ => ∃ z, v = some (.int z) ∧ x = z ∧ Rel (n + 1) κ)) → Pr n 301 [.ref 89, .int (nI w), .int (nI k)] x μ4 := fun x hx => by
    refine v_301 _ _ _ _ (s_188 6 (by decide) ⟨fun y => absurd ((e6 hA4.2.2.1).symm.trans y) z, fun _ => w_301_16 _ _ _ _ (s_262 ⟨fun y => absurd (nz q) (bI_0.mp y), fun _ => w_301_30 _ _ _ _ (s_184 ⟨fun y => absurd (nz r) (bI_0.mp y), fun _ => w_301_46 _ _ _ _ (s_188 12 (by decide) ?_)⟩)⟩)⟩)
    rw [e12 hA4.2.2.1]
    refine m_246 (A 2052) (by omega) hA.1 hV hA4.2.2.1 (fun η hL hS => ?_)
    have hMη : RM 91 A η := fun j hj => (hS 91 j rfl).trans (hA4.2.2.1 j hj)
    have hSη : Sm kS μ4 η := hS.le (fun _ _ q => kS_L q)
    have lp : ∀ j s ν, s + j = 8 → (∀ d, d ≠ 89 → d ≠ 95 → d ≠ 96 → d ≠ 97 → d ≠ 109 → ν.1 d = η.1 d) → (∀ i, (i < 5 ∨ 45 < i) → ν.1 89 i = η.1 89 i) → (∀ s', s' < s → ν.1 109 s' = nI (sdA A w s')) → wm_Wp 0 301 58 [.ref 89, .int (nI w), .int (nI k), .int (nI s)] ν (fun v κ => ∃ z, v = some (.int z) ∧ x = z ∧ Rel (n + 1) κ) := by
      intro j
      induction j with
      | zero =>
        intro s ν hj f1 f2 f3
        have : s = 8 := by omega
        subst this
        have hSν : Sm kS η ν := fun c i q => by
          unfold kS at q
          simp only [Bool.and_eq_true, Bool.not_eq_true', Bool.and_eq_false_iff, Nat.ble_eq, Bool.eq_false_iff, ne_eq, Nat.beq_eq] at q
          by_cases e : c = 89
          · subst e; exact f2 i (by omega)
          · exact congrFun (f1 c e (by omega) (by omega) (by omega) (by omega)) i
        exact w_301_58 _ _ _ _ _ ⟨fun _ => hx ν f3 (hR4.sm ((hSη.tr hSν).le (fun _ _ q => kR_S q))).up, fun q => absurd (nI_le (Nat.le_refl 8) (by decide)) q⟩
      | succ j ih =>
        intro s ν hj f1 f2 f3
        have hs : s < 8 := by omega
        refine w_301_58 _ _ _ _ _ ⟨fun q => absurd q (nI_ge (a := s) (b := 8) (by omega) (by decide)), fun _ => m_299 w s (by omega) hs (by omega) hA.1 hA.2.1 hV hp (hMη.fr (f1 91 (by decide) (by decide) (by decide) (by decide) (by decide))) (fun hr c k a b d e f' => by rw [f1 93 (by decide) (by decide) (by decide) (by decide) (by decide), f1 94 (by decide) (by decide) (by decide) (by decide) (by decide)]; exact hL hr c k a b d e f') (fun κ g => ⟨vp_in_nI hs (by decide), ?_⟩)⟩
        rw [nI_clamp (show s < 2 ^ 31 by omega), nI_1]
        refine ih (s + 1) _ (by omega) (fun d a b c e f => by rw [si_ne _ _ _ f, g.1 d a b c e]; exact f1 d a b c e f) (fun i hi => by rw [si_ne _ _ _ (by decide), g.2 i hi]; exact f2 i hi) (fun s' h => ?_)
        by_cases e : s' = s
        · subst e; rw [si_same]
        · rw [si_other _ _ e, g.1 109 (by decide) (by decide) (by decide) (by decide)]; exact f3 s' (by omega)
    exact lp 8 0 η rfl (fun _ _ _ _ _ _ => rfl) (fun _ _ => rfl) (fun s' h => by omega)
  have tk : (nI k).toInt = k := nI_toInt (by omega)
  rw [tk]
  refine ⟨fun w' => w_151_121 _ _ _ ?_, fun w' => w_151_100 _ _ ⟨by unfold vp_in; decide +kernel, _, rfl, key _ (fun ν h109 hR => ?_)⟩, fun w' => w_151_110 _ _ ⟨by unfold vp_in; decide +kernel, _, rfl, key _ (fun ν h109 hR => ?_)⟩, trivial⟩
  · have k3 : k < 3 := by
      have a3 : ¬ (k : Int) = 3 := w' (3, 27) (by decide)
      have a4 : ¬ (k : Int) = 4 := w' (4, 37) (by decide)
      omega
    have sh : ∀ k, k < 3 → (1 : Int32) <<< (nI k &&& 31) = nI (2 ^ k) := by decide +kernel
    have p8 : 2 ^ k < 8 := by
      have : k = 0 ∨ k = 1 ∨ k = 2 := by omega
      rcases this with rfl | rfl | rfl <;> decide
    rw [sh k k3]
    refine c_58 (2 ^ k) p8 ⟨_, rfl, key _ (fun ν h109 hR => w_301_82 _ _ _ ⟨fun e => absurd ((nI_eq (b := 3) (by omega) (by decide)).mp e) (by omega), fun _ => w_301_96 _ _ _ ⟨fun e => absurd ((nI_eq (b := 4) (by omega) (by decide)).mp e) (by omega), fun _ => w_301_111 _ _ _ (m_300 k k3 ⟨_, rfl, ?_, hR⟩)⟩⟩)⟩
    exact sh_congr p8 (fun s hs => (h84 s hs).trans (h109 s hs).symm) 8 (Nat.le_refl _)
  · have w' : k = 3 := by omega
    refine w_301_82 _ _ _ ⟨fun _ => ⟨by unfold vp_in; decide +kernel, _, rfl, ?_, hR⟩, fun e => absurd (by rw [w']; rfl) e⟩
    rw [show ((0 : Int32)).toNatClampNeg = 0 from by decide +kernel, h84 0 (by decide), h109 0 (by decide)]
  · have w' : k = 4 := by omega
    refine w_301_82 _ _ _ ⟨fun e => absurd ((nI_eq (b := 3) (by omega) (by decide)).mp e) (by omega), fun _ => w_301_96 _ _ _ ⟨fun _ => ⟨by unfold vp_in; decide +kernel, _, rfl, ?_, hR⟩, fun e => absurd (by rw [w']; rfl) e⟩⟩
    rw [show ((7 : Int32)).toNatClampNeg = 7 from by decide +kernel, h84 7 (by decide), h109 7 (by decide)]
