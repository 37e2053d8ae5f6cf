/-! ===== the reference: isFrom, plans ===== -/
theorem m_255 {m : Nat} {A : Nat → Nat} {L : Nat → Nat} (w tab ch k s h0 : Nat) (hk8 : k < 864) (hs : s < 864) (hc0 : 0 < ch) (hch : ch < 10000) (hl : L s ≤ 120) (h0k : L k ≠ 999 → h0 ≤ hq (L k) ∧ k % 3 < A 2040) {μ : wm_M} {Q : Int32 → wm_M → Prop} (hB : BA m A) (hM : RM 91 A μ) (hS : LSt A w tab h0 10368 μ) (hL : LabM L μ) (h1 : Fr (stF A w tab) (whA A) ch L s k → Q 1 μ) (h0' : ¬ Fr (stF A w tab) (whA A) ch L s k → Q 0 μ) : wm_OkI 0 255 [.ref 89, .int (nI ch), .int (nI k), .int (nI s)] μ Q := by
  have b3 := hB.sails
  have vk : vp_in (nI k) 864 := vp_in_nI hk8 (by decide)
  have vs : vp_in (nI s) 864 := vp_in_nI hs (by decide)
  have ck : (nI k).toNatClampNeg = k := nI_clamp (by omega)
  have cs : (nI s).toNatClampNeg = s := nI_clamp (by omega)
  obtain ⟨lk1, lk2⟩ := hL k hk8
  obtain ⟨ls1, ls2⟩ := hL s hs
  rw [if_neg (by omega)] at ls2
  have no30 : ¬ Fr (stF A w tab) (whA A) ch L s k → wm_Wp 0 255 30 [.null, .null, .null, .null, .null, .null, .null, .null, .null, .null, .null, .null, .null, .null] μ (fun w κ => ∃ x, w = some (.int x) ∧ Q x κ) := fun q => w_255_30 _ _ ⟨z01, _, rfl, h0' q⟩
  refine v_255 _ _ _ _ _ ⟨fun q => no30 (fun r => ?_), fun q => ⟨vk, ?_⟩⟩
  · have q := (nI_eq (by omega) (by omega)).mp q
    subst q
    exact absurd (fr_lt hc0 r) (Nat.lt_irrefl _)
  have ne : k ≠ s := fun r => q (by rw [r])
  rw [ck, cs, lk2, ls2]
  by_cases e9 : L k = 999
  · rw [if_pos e9]
    refine ⟨fun _ => no30 (fun r => ?_), fun r => absurd rfl r⟩
    have := fr_lt hc0 r
    omega
  rw [if_neg e9]
  rw [if_neg e9] at lk2
  obtain ⟨hk0, hkx⟩ := h0k e9
  refine ⟨fun r => absurd r.symm (fun r => (nI_meq (b := 1) (by omega) (by decide) (by decide)).mp r), fun _ => ⟨vk, vs, fun r => ?_, fun r => no30 (fun r' => r ((nI_ltI (by omega) (by omega)).mpr (fr_lt hc0 r')))⟩⟩
  have lt : L k < L s := (nI_ltI (by omega) (by omega)).mp r
  have n24 : ¬ (24 : Int32) = 0 := by decide
  have n3 : ¬ (3 : Int32) = 0 := by decide
  have n8 : ¬ (8 : Int32) = 0 := by decide
  have D : ∀ x : Nat, x < 864 → nI x / (24 : Int32) = nI (x / 24) ∧ nI x / (3 : Int32) = nI (x / 3) ∧ nI x - nI (x / 3) * (3 : Int32) = nI (x % 3) ∧ nI (x / 3) - nI (x / 3) / (8 : Int32) * (8 : Int32) = nI (x / 3 % 8) := fun x hx => by
    have a : nI x / (3 : Int32) = nI (x / 3) := pk_div (d := 3) (by omega) (by decide) (by decide)
    refine ⟨pk_div (d := 24) (by omega) (by decide) (by decide), a, ?_, pk_rem (d := 8) (by omega) (by decide) (by decide)⟩
    rw [← a]
    exact pk_rem (d := 3) (by omega) (by decide) (by decide)
  obtain ⟨k1, k2, k3, k4⟩ := D k hk8
  obtain ⟨s1, s2, s3, s4⟩ := D s hs
  have hkh : k / 3 % 8 < 8 := by omega
  have hsh : s / 3 % 8 < 8 := by omega
  -- the step
  have loop : (Fr (stF A w tab) (whA A) ch L s k ↔ ExE (stF A w tab k) (L k) (L s)) → ∀ j hr, hr + j = 12 → hq (L k) ≤ hr → (∀ b, L k ≤ b → b < 120 → hq b < hr → 0 < stF A w tab k (hq b) → L s ≠ b + stF A w tab k (hq b)) → wm_Wp 0 255 191 [.ref 89, .null, .int (nI k), .int (nI s), .null, .null, .null, .null, .null, .null, .null, .int (nI hr), .null, .null] μ (fun w κ => ∃ x, w = some (.int x) ∧ Q x κ) := by
    intro fe j
    induction j with
    | zero =>
      intro hr hj hl0 hn
      have : hr = 12 := by omega
      subst this
      exact w_255_191 _ _ _ _ _ ⟨fun _ => w_255_258 _ _ ⟨z01, _, rfl, h0' (fun q => by
        obtain ⟨b, b1, b2, b3, b4⟩ := fe.mp q
        exact hn b b1 b2 (hq_lt b) b3 b4)⟩, fun q => absurd (nI_le (Nat.le_refl 12) (by decide)) q⟩
    | succ j ih =>
      intro hr hj hl0 hn
      have hr12 : hr < 12 := by omega
      have sl : stF A w tab k hr ≤ 140 := stA_le _ _ _ _ _ _ _
      have es : μ.1 95 (864 * hr + k) = nI (stF A w tab k hr) := by
        rw [hS hr k (by omega) hr12 hk8 (by omega)]
        congr 1
        unfold stG
        exact if_pos hkx
      have nx : (∀ b, L k ≤ b → b < 120 → hq b = hr → 0 < stF A w tab k (hq b) → L s ≠ b + stF A w tab k (hq b)) → wm_Wp 0 255 252 [.ref 89, .null, .int (nI k), .int (nI s), .null, .null, .null, .null, .null, .null, .null, .int (nI hr), .null, .null] μ (fun w κ => ∃ x, w = some (.int x) ∧ Q x κ) := fun hno => by
        refine w_255_252 _ _ _ _ _ ?_
        rw [nI_1]
        refine ih (hr + 1) (by omega) (by omega) (fun b b1 b2 b3 b4 => ?_)
        by_cases z : hq b = hr
        · exact hno b b1 b2 z b4
        · exact hn b b1 b2 (by omega) b4
      refine w_255_191 _ _ _ _ _ ?_
      rw [show ((864 : Int32) * nI hr) + nI k = nI (864 * hr + k) by simp (disch := omega) only [nl, nI_add, pk_mul, pk_sub, pk_div, rm_n, nI_clamp, vi_, nI_leI, nI_ltI, nI_eq, nI_sb, nI_eqm, nI_meq, Nat.zero_add, Nat.add_zero], nI_clamp (show 864 * hr + k < 2 ^ 31 by omega), es, ck, cs, lk2, ls2]
      generalize hsf : stF A w tab k hr = x at *
      refine ⟨fun q => absurd q (nI_ge (a := hr) (b := 12) (by omega) (by decide)), fun _ => ⟨vp_in_nI (by omega) (by decide), vs, fun z => nx (fun b b1 b2 b3 b4 => ?_), fun z => ⟨vk, fun y => nx (fun b b1 b2 b3 b4 b5 => ?_), fun y => ?_⟩⟩⟩
      · have z := (nI_leI (b := 0) (by omega) (by decide)).mp z
        rw [b3, hsf] at b4; omega
      · rw [b3, hsf] at b5
        have y := (sb_lt (by omega) (by omega) (by omega)).mp y
        omega
      · have z : 0 < x := Nat.lt_of_not_le (fun r => z ((nI_leI (b := 0) (by omega) (by decide)).mpr r))
        have y : ¬ L s < x + L k := fun r => y ((sb_lt (by omega) (by omega) (by omega)).mpr r)
        rw [pk_sub (by omega)]
        have hl' := hq_lt (L s - x)
        refine s_192 (L s - x) (by omega) ⟨fun v => ⟨o01, _, rfl, h1 (fe.mpr ⟨L s - x, by omega, by omega, ?_, ?_⟩)⟩, fun v => nx (fun b b1 b2 b3 b4 b5 => ?_)⟩
        · have v := (nI_eq (by omega) (by omega)).mp v
          rw [v, hsf]; exact z
        · have v := (nI_eq (by omega) (by omega)).mp v
          rw [v, hsf]; omega
        · rw [b3, hsf] at b5
          have : b = L s - x := by omega
          rw [this] at b3
          exact v (by rw [b3])
  have no178 : ¬ Fr (stF A w tab) (whA A) ch L s k → wm_Wp 0 255 178 [.null, .null, .null, .null, .null, .null, .null, .null, .null, .null, .null, .null, .null, .null] μ (fun w κ => ∃ x, w = some (.int x) ∧ Q x κ) := fun q => w_255_178 _ _ ⟨z01, _, rfl, h0' q⟩
  have at152 : ¬ (k / 24 = s / 24 ∧ k % 3 = s % 3) → ¬ (k / 24 = s / 24 ∧ k / 3 % 8 = s / 3 % 8) → wm_Wp 0 255 152 [.ref 89, .null, .int (nI k), .int (nI s), .int (nI (k / 24)), .int (nI (k / 3 % 8)), .int (nI (k % 3)), .int (nI (s / 24)), .int (nI (s / 3 % 8)), .int (nI (s % 3)), .null, .null, .null, .null] μ (fun w κ => ∃ x, w = some (.int x) ∧ Q x κ) := fun c1 c2 => by
    have nc : ¬ (bsA (k / 24) (k / 3 % 8) = s / 24 ∧ k / 3 % 8 = s / 3 % 8 ∧ k % 3 = s % 3) → ¬ Fr (stF A w tab) (whA A) ch L s k := fun q r => by
      rcases fr_cls r with c | c | c
      · exact c1 ⟨c.1, c.2.1⟩
      · exact c2 ⟨c.1, c.2.1⟩
      · exact q c
    have b36 := bsA_lt (k / 24) (k / 3 % 8)
    refine w_255_152 _ _ _ _ _ _ _ _ _ _ ⟨fun q => ⟨fun r => m_247 _ _ (by omega) hkh ?_, fun r => no178 (nc (fun z => r (by rw [z.2.1])))⟩, fun q => no178 (nc (fun z => q (by rw [z.2.2])))⟩
    have q := (nI_eq (by omega) (by omega)).mp q
    have r := (nI_eq (by omega) (by omega)).mp r
    unfold bsI
    by_cases e : bsA (k / 24) (k / 3 % 8) = 36
    · rw [if_pos e]
      exact ⟨fun z => ((nI_meq (a := s / 24) (b := 1) (by omega) (by decide) (by decide)).mp z).elim, fun _ => no178 (nc (fun z => by omega))⟩
    · rw [if_neg e]
      refine ⟨fun z => w_255_180 _ _ _ _ ⟨vk, ?_⟩, fun z => no178 (nc (fun y => z (by rw [y.1])))⟩
      have z := (nI_eq (by omega) (by omega)).mp z
      rw [ck, lk2]
      refine s_192 (L k) (by omega) (loop (fr_step hs hk8 z r q) (12 - hq (L k)) (hq (L k)) (by have := hq_lt (L k); omega) (Nat.le_refl _) (fun b a1 a2 a3 => absurd (hq_mono a1) (by omega)))
  have at117 : ¬ (k / 24 = s / 24 ∧ k % 3 = s % 3) → wm_Wp 0 255 117 [.ref 89, .int (nI ch), .int (nI k), .int (nI s), .int (nI (k / 24)), .int (nI (k / 3 % 8)), .int (nI (k % 3)), .int (nI (s / 24)), .int (nI (s / 3 % 8)), .int (nI (s % 3)), .int (nI (L s - L k)), .null, .null, .null] μ (fun w κ => ∃ x, w = some (.int x) ∧ Q x κ) := fun c1 => by
    refine w_255_117 _ _ _ _ _ _ _ _ _ _ _ _ ⟨fun q => ⟨fun r => ?_, fun r => at152 c1 (fun z => r (by rw [z.2]))⟩, fun q => at152 c1 (fun z => q (by rw [z.1]))⟩
    have q := (nI_eq (by omega) (by omega)).mp q
    have r := (nI_eq (by omega) (by omega)).mp r
    have fs := fr_sail (f := stF A w tab) (wh := whA A) (ch := ch) (L := L) hs q r ne
    have no : ¬ Fr (stF A w tab) (whA A) ch L s k → wm_Wp 0 255 150 [.null, .null, .null, .null, .null, .null, .null, .null, .null, .null, .null, .null, .null, .null] μ (fun w κ => ∃ x, w = some (.int x) ∧ Q x κ) := fun q => w_255_150 _ _ ⟨z01, _, rfl, h0' q⟩
    refine m_213 hB hM (fun i hi e t => ⟨fun z => absurd z (by decide), fun _ => ⟨fun z => no (fun y => ?_), fun z => ⟨o01, _, rfl, h1 (fs.mpr ⟨?_, ?_⟩)⟩⟩⟩) (fun t => ⟨fun _ => no (fun y => ?_), fun z => absurd rfl z⟩)
    · have := (fs.mp y).2
      have z := (nI_ltI (by omega) (by omega)).mp z
      omega
    · have e := (nI_eq (by omega) (by omega)).mp e
      rw [e]
      exact whA_of hi t
    · have z : ¬ L s - L k < ch := fun y => z ((nI_ltI (by omega) (by omega)).mpr y)
      omega
    · have := whA_to (fs.mp y).1
      exact t _ this.1 rfl this.2
  refine w_255_32 _ _ _ _ _ ?_
  rw [k1, s1, k2, s2, k3, s3, k4, s4, ck, cs, lk2, ls2, pk_sub (Nat.le_of_lt lt)]
  refine ⟨n24, n3, n8, n3, n24, n3, n8, n3, vs, vk, fun q => ⟨fun r => s_248 _ _ hkh hsh ?_, fun r => at117 (fun z => r (by rw [z.2]))⟩, fun q => at117 (fun z => q (by rw [z.1]))⟩
  have q := (nI_eq (by omega) (by omega)).mp q
  have r := (nI_eq (by omega) (by omega)).mp r
  have fs := fr_turn (f := stF A w tab) (wh := whA A) (ch := ch) (L := L) hs q r ne
  have ha := ap_le (k / 3 % 8) (s / 3 % 8) hkh hsh
  refine ⟨fun z => w_255_115 _ _ ⟨z01, _, rfl, h0' (fun y => ?_)⟩, fun z => ⟨o01, _, rfl, h1 (fs.mpr ?_)⟩⟩
  · have := fs.mp y
    have z := (nI_ltI (by omega) (by omega)).mp z
    omega
  · have z : ¬ L s - L k < ap (k / 3 % 8) (s / 3 % 8) := fun y => z ((nI_ltI (by omega) (by omega)).mpr y)
    omega
