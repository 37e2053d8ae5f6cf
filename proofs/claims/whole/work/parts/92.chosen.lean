/-! ===== class: choose, places, workOut ===== -/
theorem al_le {m : Nat} {A : Nat → Nat} {aim one c : Nat} (hB : BA m A) (hX : VX A) (hp : A 2046 = 1) (hc3 : c < 3) : alA A aim one c ≤ 449550 := acA_le (aim := aim) (one := one) hB hX hp hc3 3
theorem bc_lt (A : Nat → Nat) (aim one : Nat) : bcA A aim one < 3 := bq_lt _ 3 (by decide)
/-- what choose leaves -/
def Cho (A : Nat → Nat) (aim one : Nat) (ν : wm_M) : Prop := ν.1 75 7 = nI (bcA A aim one) ∧ ν.2 75 8 = lN (alA A aim one (bcA A aim one)) ∧ ∀ g, g < 3 → ν.1 79 g = sqI A aim one (bcA A aim one) g
def F75 (μ ν : wm_M) : Prop := (∀ d, d ≠ 75 → d ≠ 79 → d ≠ 80 → ν.1 d = μ.1 d) ∧ ∀ i, i ≠ 7 → ν.1 75 i = μ.1 75 i
theorem F75.sm {K : Nat → Nat → Bool} {μ ν : wm_M} (h : F75 μ ν) (k1 : K 75 7 = false) (k2 : ∀ i, K 79 i = false) (k3 : ∀ i, K 80 i = false) : Sm K μ ν := fun c i q => by
  by_cases e : c = 75
  · subst e
    exact h.2 i (fun r => by rw [r, k1] at q; cases q)
  · exact congrFun (h.1 c e (fun r => by rw [r, k2 i] at q; cases q) (fun r => by rw [r, k3 i] at q; cases q)) i
theorem c_33 {m : Nat} {A : Nat → Nat} (aim one : Nat) (ha : aim < 3) (ho : one < 2) {μ : wm_M} {Q : wm_M → Prop} (hC : CL m A μ) (hW : wrkd A μ) (hp : A 2046 = 1) (hk : ∀ ν, Cho A aim one ν → F75 μ ν → Q ν) : wm_OkV 0 33 [.ref 75, .int (nI aim), .int (nI one)] μ Q := by
  have all : ∀ c, c < 3 → alA A aim one c ≤ 449550 := fun c hc => al_le hC.1 hC.2.1 hp hc
  have lp : ∀ j c ν, c + j = 3 → (ν.1 75 7 = if c = 0 then -1 else nI (bq (fun c => alA A aim one c) c)) → (c ≠ 0 → ν.2 75 8 = lN (alA A aim one (bq (fun c => alA A aim one c) c)) ∧ ∀ g, g < 3 → ν.1 79 g = sqI A aim one (bq (fun c => alA A aim one c) c) g) → F75 μ ν → wm_Wp 0 33 7 [.ref 75, .int (nI aim), .int (nI one), .int (nI c), .null, .null] ν (fun w ν => w = none ∧ Q ν) := by
    intro j
    induction j with
    | zero =>
      intro c ν hj h7 h8 hF
      have : c = 3 := by omega
      subst this
      exact w_33_7 _ _ _ _ _ ⟨fun _ => w_33_70 _ _ ⟨rfl, hk ν ⟨h7, h8 (by decide)⟩ hF⟩, fun q => absurd (nI_le (Nat.le_refl 3) (by decide)) q⟩
    | succ j ih =>
      intro c ν hj h7 h8 hF
      have hc3 : c < 3 := by omega
      have hCν : CL m A ν := hC.sm (hF.sm rfl (fun _ => rfl) (fun _ => rfl))
      have hWν : wrkd A ν := wrkd_of (hF.1 76 (by decide) (by decide) (by decide)) (hF.1 77 (by decide) (by decide) (by decide)) (hF.1 78 (by decide) (by decide) (by decide)) hW
      refine w_33_7 _ _ _ _ _ ⟨fun q => absurd q (nI_ge (a := c) (b := 3) (by omega) (by decide)), fun _ => c_34 aim c one ha hc3 ho hCν hWν hp (fun κ k1 k2 k3 => ?_)⟩
      have e75 : κ.1 75 = ν.1 75 := k2 75 (by decide)
      have hFκ : F75 μ κ := ⟨fun d a b e => (k2 d e).trans (hF.1 d a b e), fun i hi => by rw [e75]; exact hF.2 i hi⟩
      have take : bq (fun c => alA A aim one c) (c + 1) = c → wm_Wp 0 33 39 [.ref 75, .int (nI aim), .int (nI one), .int (nI c), .long (lN (alA A aim one c)), .null] κ (fun w ν => w = none ∧ Q ν) := fun eb => by
        refine w_33_39 _ _ _ _ _ _ ⟨by decide, by decide, by decide, by decide +kernel, by decide +kernel, fun ξ hξ => w_33_64 _ _ _ _ _ ?_⟩
        rw [nI_1]
        have q7 : ξ.1 75 7 = nI c := by rw [hξ, sr_ne _ _ (by decide)]; exact si_same κ 75 7 (nI c)
        have q8 : ξ.2 75 8 = lN (alA A aim one c) := by rw [hξ]; exact sl_same (wm_si κ 75 7 (nI c)) 75 8 (lN (alA A aim one c))
        have q9 : ∀ g, g < 3 → ξ.1 79 g = κ.1 80 g := fun g hg => by
          rw [hξ, sr_eq, show ((0 : Int32)).toNatClampNeg = 0 from by decide +kernel, show ((3 : Int32)).toNatClampNeg = 3 from by decide +kernel, sb_cpy0 hg]
          exact congrFun (si_ne κ 7 (nI c) (show 80 ≠ 75 by decide)) g
        have qd : ∀ d, d ≠ 75 → d ≠ 79 → ξ.1 d = κ.1 d := fun d a b => by
          rw [hξ, sr_ne _ _ b]
          exact si_ne κ 7 (nI c) a
        have qi : ∀ i, i ≠ 7 → ξ.1 75 i = κ.1 75 i := fun i hi => by
          rw [hξ, sr_ne _ _ (by decide)]
          exact si_other κ (c := 75) (nI c) hi
        refine ih (c + 1) ξ (by omega) (by rw [q7, if_neg (by omega), eb]) (fun _ => ⟨by rw [q8, eb], fun g hg => by rw [q9 g hg, k1 g hg, eb]⟩) ⟨fun d a b e => (qd d a b).trans (hFκ.1 d a b e), fun i hi => (qi i hi).trans (hFκ.2 i hi)⟩
      rw [e75, h7]
      by_cases c0 : c = 0
      · rw [if_pos c0]
        refine ⟨fun _ => take ?_, fun z => absurd rfl z⟩
        unfold bq
        rw [if_pos (Or.inl c0)]
      · have bl := bq_lt (fun c => alA A aim one c) c (by omega)
        obtain ⟨h8a, h8b⟩ := h8 c0
        have a1 := all c hc3
        have a2 := all (bq (fun c => alA A aim one c) c) (by omega)
        rw [if_neg c0]
        refine ⟨fun z => absurd z (nI_n1 (by omega)), fun _ => ?_⟩
        rw [lg_cmp_ge, k3, h8a, lN_le (by omega) (by omega)]
        refine ⟨fun z => w_33_64 _ _ _ _ _ ?_, fun z => take ?_⟩
        · have eb : bq (fun c => alA A aim one c) (c + 1) = bq (fun c => alA A aim one c) c := by
            conv => lhs; unfold bq
            rw [if_neg (fun r => r.elim c0 (fun r => by omega))]
          rw [nI_1]
          refine ih (c + 1) κ (by omega) (by rw [e75, h7, if_neg c0, if_neg (by omega), eb]) (fun _ => ⟨by rw [k3, h8a, eb], fun g hg => by rw [k2 79 (by decide), h8b g hg, eb]⟩) hFκ
        · conv => lhs; unfold bq
          rw [if_pos (Or.inr (by omega))]
  refine v_33 _ _ _ _ (lp 3 0 _ rfl (by rw [si_same, if_pos rfl]) (fun q => absurd rfl q) ⟨fun d a _ _ => si_ne _ _ _ a, fun i hi => si_other _ _ hi⟩)
theorem c_53 {m : Nat} {A : Nat → Nat} (w x : Nat) (hw : w < 6) (hx : x ≤ 999) {μ : wm_M} {Q : Int32 → wm_M → Prop} (hC : CL m A μ) (hq : Q (nI (plc A w x 6)) μ) : wm_OkI 0 53 [.ref 1, .int (nI w), .int (nI x)] μ Q := by
  have lp : ∀ j r, r + j = 6 → wm_Wp 0 53 5 [.ref 1, .int (nI w), .int (nI x), .int (nI (plc A w x r)), .int (nI r)] μ (fun w ν => ∃ x, w = some (.int x) ∧ Q x ν) := by
    intro j
    induction j with
    | zero =>
      intro r hj
      have : r = 6 := by omega
      subst this
      exact w_53_5 _ _ _ _ _ _ ⟨fun _ => w_53_45 _ _ _ ⟨_, rfl, hq⟩, fun q => absurd (nI_le (Nat.le_refl 6) (by decide)) q⟩
    | succ j ih =>
      intro r hj
      have r6 : r < 6 := by omega
      have br := hC.1.rival (show 6 * r + w < 36 by omega)
      have er : μ.1 29 (w * 6 + r) = nI (A (2004 + 6 * r + w)) := hC.2.2.2.1.2.2.2.1 r w r6 hw
      have br : A (2004 + 6 * r + w) < 1000 := by rw [Nat.add_assoc]; exact br
      refine w_53_5 _ _ _ _ _ _ ⟨fun q => absurd q (nI_ge (a := r) (b := 6) (by omega) (by decide)), fun _ => ?_⟩
      rw [show nI w * (6 : Int32) + nI r = nI (w * 6 + r) by simp (disch := omega) only [nl, nI_add, pk_mul, pk_sub, pk_div, rm_n, nI_clamp, vi_, nI_leI, nI_ltI, nI_eq, nI_sb, nI_eqm, nI_meq, Nat.zero_add, Nat.add_zero], nI_clamp (show w * 6 + r < 2 ^ 31 by omega), er, nI_1]
      refine ⟨vp_in_nI (by omega) (by decide), fun z => s_177 ?_, fun z => s_177 ?_⟩
      · have z := (nI_leI (by omega) (by omega)).mp z
        have := ih (r + 1) (by omega)
        unfold plc at this
        rw [if_neg (by omega)] at this
        rw [bI_f (fun q => q rfl), show (0 : Int32) = nI 0 from rfl, nI_add]
        exact this
      · have z : ¬ x ≤ A (2004 + 6 * r + w) := fun y => z ((nI_leI (by omega) (by omega)).mpr y)
        have := ih (r + 1) (by omega)
        unfold plc at this
        rw [if_pos (by omega)] at this
        rw [bI_t (by decide), show (1 : Int32) = nI 1 from rfl, nI_add]
        exact this
  exact v_53 _ _ _ _ (lp 6 0 rfl)
theorem c_36 {m : Nat} {A : Nat → Nat} (aim : Nat) (ha : aim < 3) {μ : wm_M} {Q : Int64 → wm_M → Prop} (hC : CL m A μ) (hW : wrkd A μ) (hp : A 2046 = 1) (hH : Cho A aim 0 μ) (hk : Q (lN (plS A aim 6)) μ) : wm_OkJ 0 36 [.ref 75] μ Q := by
  obtain ⟨h7, _, h79⟩ := hH
  have bc3 := bc_lt A aim 0
  have lp : ∀ j w, w + j = 6 → wm_Wp 0 36 4 [.ref 75, .long (lN (plS A aim w)), .null, .int (nI w), .null, .null] μ (fun v ν => ∃ x, v = some (.long x) ∧ Q x ν) := by
    intro j
    induction j with
    | zero =>
      intro w hj
      have : w = 6 := by omega
      subst this
      exact w_36_4 _ _ _ _ ⟨fun _ => w_36_91 _ _ _ ⟨_, rfl, hk⟩, fun q => absurd (nI_le (Nat.le_refl 6) (by decide)) q⟩
    | succ j ih =>
      intro w hj
      have hw6 : w < 6 := by omega
      have vw : vp_in (nI w) 6 := vp_in_nI hw6 (by decide)
      have cw : (nI w).toNatClampNeg = w := nI_clamp (by omega)
      have bg := hC.1.group hw6
      have eg : gpA A 0 w = A (1995 + w) := rfl
      have skip : ¬ 0 < tnA A w 12 → wm_Wp 0 36 85 [.ref 75, .long (lN (plS A aim w)), .null, .int (nI w), .null, .null] μ (fun v ν => ∃ x, v = some (.long x) ∧ Q x ν) := fun nt => by
        refine w_36_85 _ _ _ _ ?_
        rw [nI_1]
        have := ih (w + 1) (by omega)
        unfold plS at this
        rw [if_neg nt] at this
        exact this
      refine w_36_4 _ _ _ _ ⟨fun q => absurd q (nI_ge (a := w) (b := 6) (by omega) (by decide)), fun _ => ?_⟩
      rw [cw, hC.2.2.1.group hw6, nI_clamp (show A (1995 + w) < 2 ^ 31 by omega), h79 _ bg]
      refine ⟨vw, vp_in_nI bg (by decide), ?_⟩
      unfold sqI
      cases hb : anG A 0 (A (1995 + w)) 6 with
      | false =>
        rw [if_neg (by decide)]
        refine ⟨fun _ => skip (fun t => ?_), fun z => absurd rfl z⟩
        rw [anG_in hw6 t eg] at hb
        cases hb
      | true =>
        rw [if_pos rfl]
        have sq3 := sq_lt A aim 0 (bcA A aim 0) (A (1995 + w))
        refine ⟨fun z => absurd z (nI_n1 (by omega)), fun _ => c_76 w (by omega) hC ⟨fun z => skip (bI_0.mp z), fun z => ?_⟩⟩
        have t := nz z
        obtain ⟨w1, w2, w3⟩ := hW w hw6 t
        rw [h7]
        obtain ⟨s1, s2, s3⟩ := soo_le (w := w) (ch := chA A) (c := bcA A aim 0) (q := sq A aim 0 (bcA A aim 0) (A (1995 + w))) hC.1 hC.2.1 hp (by have := chA_le hC.1; omega) bc3 sq3
        refine s_32 _ _ _ ⟨vp_in_nI (by omega) (by decide), vw, ?_⟩
        rw [nI_clamp (show (w * 3 + bcA A aim 0) * 3 + sq A aim 0 (bcA A aim 0) (A (1995 + w)) < 2 ^ 31 by omega), w2, w3 _ _ bc3 sq3]
        have wl := wt_le A w
        have pl := plc_le A w (cmA A w (chA A) (bcA A aim 0) (sq A aim 0 (bcA A aim 0) (A (1995 + w)))) 6
        refine c_53 w _ hw6 s2 hC (w_36_85 _ _ _ _ ?_)
        rw [nI_1, nI_l (by omega), nI_l (by omega), lN_mul, lN_add]
        have := ih (w + 1) (by omega)
        unfold plS at this
        rw [if_pos t, eg] at this
        exact this
  exact v_36 _ _ (lp 6 0 rfl)
/-! workOut -/
def G8 (μ ν : wm_M) : Prop := ∀ d, (d < 69 ∨ 78 < d) ∨ d = 75 → ν.1 d = μ.1 d
theorem G8.rf (μ : wm_M) : G8 μ μ := fun _ _ => rfl
theorem G8.tr {μ ν κ : wm_M} (h : G8 μ ν) (g : G8 ν κ) : G8 μ κ := fun d q => (g d q).trans (h d q)
theorem G8.of {μ ν : wm_M} (h : F7 μ ν) : G8 μ ν := fun d q => h d (by omega)
theorem G8.si {μ ν : wm_M} (h : G8 μ ν) {c k : Nat} {x : Int32} (hc : 76 ≤ c ∧ c ≤ 78) : G8 μ (wm_si ν c k x) := fun d q => by rw [si_ne _ _ _ (by omega)]; exact h d q
theorem Chd.g8 {m : Nat} {A : Nat → Nat} {w tab : Nat} {μ ν : wm_M} (h : Chd m A w tab μ) (e : G8 μ ν) : Chd m A w tab ν := by
  obtain ⟨h1, h2, h3, h4⟩ := h
  refine ⟨h1.sm (fun c i q => congrFun (e c (Or.inl (Decidable.byContradiction (fun r => ?_)))) i), askd_of (e 63 (by decide)) (e 64 (by decide)) h2, drwn_of (e 65 (by decide)) (e 66 (by decide)) (e 67 (by decide)) h3, fun c h' hc hh => ?_⟩
  · have k : ∀ d, (∀ i, kA 0 d i = false) → c ≠ d := fun d hd z => by rw [z, hd i] at q; cases q
    have n1 := k 69 (fun _ => rfl)
    have n2 := k 70 (fun _ => rfl)
    have n3 := k 71 (fun _ => rfl)
    have n4 := k 72 (fun _ => rfl)
    have n5 := k 73 (fun _ => rfl)
    have n6 := k 74 (fun _ => rfl)
    have n7 := k 75 (fun _ => rfl)
    have n8 := k 76 (fun _ => rfl)
    have n9 := k 77 (fun _ => rfl)
    have n10 := k 78 (fun _ => rfl)
    omega
  · rw [e 68 (by decide)]; exact h4 c h' hc hh
theorem RA.g8 {n : Nat} {A : Nat → Nat} {μ ν : wm_M} (h : RA n A μ) (e : G8 μ ν) (h0 : μ.1 75 6 = 0) : RA n A ν := by
  have e75 : ν.1 75 = μ.1 75 := e 75 (by decide)
  have e62 : ν.1 62 = μ.1 62 := e 62 (by decide)
  obtain ⟨h1, h2, h3, h4, h5, h6, h7⟩ := h
  refine ⟨h1, h2, h3.fr (e 91 (by decide)), h4.sm (Or.inl rfl) (fun c i q => congrFun (e c (Or.inl (Decidable.byContradiction (fun r => ?_)))) i), fun q => ?_, fun w tab a b q => ?_, fun q => absurd (by rw [e75]; exact h0) q⟩
  · have k : ∀ d, (∀ i, kA 0 d i = false) → c ≠ d := fun d hd z => by rw [z, hd i] at q; cases q
    have n1 := k 69 (fun _ => rfl)
    have n2 := k 70 (fun _ => rfl)
    have n3 := k 71 (fun _ => rfl)
    have n4 := k 72 (fun _ => rfl)
    have n5 := k 73 (fun _ => rfl)
    have n6 := k 74 (fun _ => rfl)
    have n7 := k 75 (fun _ => rfl)
    have n8 := k 76 (fun _ => rfl)
    have n9 := k 77 (fun _ => rfl)
    have n10 := k 78 (fun _ => rfl)
    omega
  · rw [e62] at q
    exact askd_of (e 63 (by decide)) (e 64 (by decide)) (h5 q)
  · rw [e62] at q
    exact drwn_of (e 65 (by decide)) (e 66 (by decide)) (e 67 (by decide)) (h6 w tab a b q)
theorem RO.g8 {n : Nat} {μ ν : wm_M} (h : RO n μ) (e : G8 μ ν) : RO n ν := h.sm (fun c i q => congrFun (e c (Or.inl (Decidable.byContradiction (fun r => by
  have k : ∀ d, (∀ i, kO d i = false) → c ≠ d := fun d hd z => by rw [z, hd i] at q; cases q
  have n1 := k 69 (fun _ => rfl)
  have n2 := k 70 (fun _ => rfl)
  have n3 := k 71 (fun _ => rfl)
  have n4 := k 72 (fun _ => rfl)
  have n5 := k 73 (fun _ => rfl)
  have n6 := k 74 (fun _ => rfl)
  have n7 := k 75 (fun _ => rfl)
  have n8 := k 76 (fun _ => rfl)
  have n9 := k 77 (fun _ => rfl)
  have n10 := k 78 (fun _ => rfl)
  omega)))) i)
theorem c_31 {n : Nat} {A : Nat → Nat} (w : Nat) (hw : w < 6) {μ : wm_M} {Q : wm_M → Prop} (hA : RA n A μ) (hO : RO n μ) (hK : askd A μ) (hp : A 2046 = 1) (h0 : μ.1 75 6 = 0) (hk : ∀ ν, RA n A ν → RO n ν → askd A ν → ν.1 75 6 = 0 → ν.1 77 w = nI (sooA A w (chA A)) → ν.1 78 w = nI (wtA A w) → (∀ c q, c < 3 → q < 3 → ν.1 76 ((w * 3 + c) * 3 + q) = nI (cmA A w (chA A) c q)) → (∀ i, i ≠ w → ν.1 77 i = μ.1 77 i ∧ ν.1 78 i = μ.1 78 i) → (∀ i, ¬ (9 * w ≤ i ∧ i < 9 * w + 9) → ν.1 76 i = μ.1 76 i) → Q ν) : wm_OkV 0 31 [.ref 75, .int (nI w), .int (nI (chA A))] μ Q := by
  have bt := hA.1.tick
  have bm := hA.1.mark
  have ch := chA_le hA.1
  have hx := bst_x hA.1 hA.2.1 hp
  have hs0 := bst_lt hA.1
  have vw : vp_in (nI w) 6 := vp_in_nI hw (by decide)
  have cw : (nI w).toNatClampNeg = w := nI_clamp (by omega)
  refine v_31 _ _ _ _ (c_19r w 1 (by omega) (by decide) hA hO hK (fun μ1 hA1 hO1 hC1 hZ => c_81 w hw hC1.1 ⟨vw, ?_⟩))
  rw [cw]
  have z0 : μ1.1 75 6 = 0 := by rw [hZ 75 (by decide) (by decide) (by decide) (by decide) (by decide) (by decide) (by decide) (by decide)]; exact h0
  have z76 : μ1.1 76 = μ.1 76 := hZ 76 (by decide) (by decide) (by decide) (by decide) (by decide) (by decide) (by decide) (by decide)
  have z77 : μ1.1 77 = μ.1 77 := hZ 77 (by decide) (by decide) (by decide) (by decide) (by decide) (by decide) (by decide) (by decide)
  have z78 : μ1.1 78 = μ.1 78 := hZ 78 (by decide) (by decide) (by decide) (by decide) (by decide) (by decide) (by decide) (by decide)
  -- the loops
  have outer : ∀ j c ν, c + j = 3 → G8 μ1 ν → ν.1 77 w = nI (sooA A w (chA A)) → ν.1 78 w = nI (wtA A w) → (∀ i, i ≠ w → ν.1 77 i = μ.1 77 i ∧ ν.1 78 i = μ.1 78 i) → (∀ c' q, c' < c → q < 3 → ν.1 76 ((w * 3 + c') * 3 + q) = nI (cmA A w (chA A) c' q)) → (∀ i, ¬ (9 * w ≤ i ∧ i < 9 * w + 9) → ν.1 76 i = μ.1 76 i) → wm_Wp 0 31 93 [.ref 75, .int (nI w), .int (nI (chA A)), .ref 13, .null, .int (nI c), .null, .null, .null] ν (fun w ν => w = none ∧ Q ν) := by
    intro j
    induction j with
    | zero =>
      intro c ν hj hG h77 h78 h7' h76 h76'
      have : c = 3 := by omega
      subst this
      have hAν := hA1.g8 hG z0
      exact w_31_93 _ _ _ _ _ ⟨fun _ => w_31_208 _ _ ⟨rfl, hk ν hAν (hO1.g8 hG) (hC1.g8 hG).2.1 (by rw [hG 75 (by decide)]; exact z0) h77 h78 h76 h7' h76'⟩, fun q => absurd (nI_le (Nat.le_refl 3) (by decide)) q⟩
    | succ j ih =>
      intro c ν hj hG h77 h78 h7' h76 h76'
      have hc3 : c < 3 := by omega
      have bc := hA.1.choice hc3
      have hCν := hC1.g8 hG
      have inner : ∀ (x6 x7 : Int32), (∀ κ, G8 ν κ → ∀ q, q < 3 → (x6 = (-1 : Int32) → cmA A w (chA A) c q = 999) ∧ (¬ x6 = -1 → ∀ Q', (∀ ξ, F7 κ ξ → Q' (nI (cmA A w (chA A) c q)) ξ) → wm_OkI 0 29 [.ref 75, .int x6, .int x7, .int (nI q), .int (nI (chA A))] κ Q')) → ∀ j q κ, q + j = 3 → G8 ν κ → κ.1 77 = ν.1 77 → κ.1 78 = ν.1 78 → (∀ q', q' < q → κ.1 76 ((w * 3 + c) * 3 + q') = nI (cmA A w (chA A) c q')) → (∀ i, ¬ ((w * 3 + c) * 3 ≤ i ∧ i < (w * 3 + c) * 3 + 3) → κ.1 76 i = ν.1 76 i) → wm_Wp 0 31 154 [.ref 75, .int (nI w), .int (nI (chA A)), .ref 13, .null, .int (nI c), .int x6, .int x7, .int (nI q)] κ (fun w ν => w = none ∧ Q ν) := by
        intro x6 x7 hx6 j
        induction j with
        | zero =>
          intro q κ hj g1 g2 g3 g4 g5
          have : q = 3 := by omega
          subst this
          refine w_31_154 _ _ _ _ _ _ _ _ ⟨fun _ => w_31_202 _ _ _ _ _ ?_, fun z => absurd (nI_le (Nat.le_refl 3) (by decide)) z⟩
          rw [nI_1]
          refine ih (c + 1) κ (by omega) (hG.tr g1) (by rw [g2]; exact h77) (by rw [g3]; exact h78) (fun i hi => by rw [g2, g3]; exact h7' i hi) (fun c' q a b => ?_) (fun i hi => by rw [g5 i (by omega)]; exact h76' i hi)
          by_cases e : c' = c
          · subst e; exact g4 q b
          · rw [g5 _ (by omega)]; exact h76 c' q (by omega) b
        | succ j ihq =>
          intro q κ hj g1 g2 g3 g4 g5
          have hq3 : q < 3 := by omega
          have put : ∀ ξ, F7 κ ξ → wm_Wp 0 31 154 [.ref 75, .int (nI w), .int (nI (chA A)), .ref 13, .null, .int (nI c), .int x6, .int x7, .int (nI q + (1 : Int32))] (wm_si ξ 76 ((w * 3 + c) * 3 + q) (nI (cmA A w (chA A) c q))) (fun w ν => w = none ∧ Q ν) := fun ξ f => by
            rw [nI_1]
            refine ihq (q + 1) _ (by omega) ((g1.tr (G8.of f)).si (by decide)) (by rw [si_ne _ _ _ (by decide), f 77 (by decide)]; exact g2) (by rw [si_ne _ _ _ (by decide), f 78 (by decide)]; exact g3) (fun q' hq' => ?_) (fun i hi => by rw [si_other _ _ (by omega), f 76 (by decide)]; exact g5 i hi)
            by_cases e : q' = q
            · subst e; rw [si_same]
            · rw [si_other _ _ (by omega), f 76 (by decide)]; exact g4 q' (by omega)
          obtain ⟨x1, x2⟩ := hx6 κ g1 q hq3
          refine w_31_154 _ _ _ _ _ _ _ _ ⟨fun z => absurd z (nI_ge (a := q) (b := 3) (by omega) (by decide)), fun _ => s_32 w c q ⟨fun z => ?_, fun z => x2 z _ (fun ξ f => ?_)⟩⟩
          · rw [nI_clamp (show (w * 3 + c) * 3 + q < 2 ^ 31 by omega)]
            have := put κ (F7.rf κ)
            rw [x1 z] at this
            exact ⟨vp_in_nI (by omega) (by decide), this⟩
          · rw [nI_clamp (show (w * 3 + c) * 3 + q < 2 ^ 31 by omega)]
            exact ⟨vp_in_nI (by omega) (by decide), put ξ f⟩
      refine w_31_93 _ _ _ _ _ ⟨fun q => absurd q (nI_ge (a := c) (b := 3) (by omega) (by decide)), fun _ => c_2 hCν.1 ⟨vp_in_nI hc3 (by decide), ?_⟩⟩
      rw [nI_clamp (show c < 2 ^ 31 by omega), hCν.1.2.2.1.tick, hCν.1.2.2.1.choice hc3]
      have C : ∀ q, cmA A w (chA A) c q = (match wyA A w 1 (chA A) (bstA A) (A 2050) (A (2001 + c)) with | none => 999 | some r => cm2A A w (chA A) r.1 r.2 q) := fun q => rfl
      refine c_107 w 1 (chA A) (bstA A) (A 2050) (A (2001 + c)) (by omega) hs0 (by omega) (by omega) (by omega) hx bc hCν (fun κ k1 k2 => ⟨fun _ => inner _ _ (fun ξ _ q hq => ⟨fun _ => by rw [C, k2], fun z => absurd rfl z⟩) 3 0 κ rfl (G8.of k1) (k1 77 (by decide)) (k1 78 (by decide)) (fun q' h => by omega) (fun i _ => by rw [k1 76 (by decide)]), fun z => absurd rfl z⟩) (fun κ ℓ s T k1 k2 k3 k4 k5 k6 k7 k8 k9 => ⟨fun z => absurd z (nI_n1 k5), fun _ => w_31_139 _ _ _ _ _ _ ⟨vp_in_nI k5 (by decide), ?_⟩⟩)
      obtain ⟨_, _, _, _, _, x6⟩ := wy_ok (by omega) hs0 (by omega) hx bc k4
      rw [nI_clamp (show s < 2 ^ 31 by omega), (k2 s k5).2, k8]
      refine inner _ _ (fun ξ g q hq => ⟨fun z => absurd z (nI_n1 k5), fun _ Q' hQ => c_29 w (chA A) s T q (by omega) k5 k7 (by omega) (by omega) x6 hq (hCν.g8 g) (fun ρ f => ?_)⟩) 3 0 κ rfl (G8.of k1) (k1 77 (by decide)) (k1 78 (by decide)) (fun q' h => by omega) (fun i _ => by rw [k1 76 (by decide)])
      have := hQ ρ f
      rw [C, k4] at this
      exact this
  have hC2 : Chd n A w 1 (wm_si μ1 78 w (nI (wtA A w))) := hC1.g8 ((G8.rf _).si (by decide))
  refine c_2 hC2.1 ?_
  rw [hC2.1.2.2.1.tick, hC2.1.2.2.1.mark]
  have S : sooA A w (chA A) = (match wyA A w 1 (chA A) (bstA A) (A 2050) (A 2045) with | none => 999 | some r => r.2) := rfl
  have put : ∀ κ, F7 (wm_si μ1 78 w (nI (wtA A w))) κ → wm_Wp 0 31 93 [.ref 75, .int (nI w), .int (nI (chA A)), .ref 13, .null, .int (0 : Int32), .null, .null, .null] (wm_si κ 77 w (nI (sooA A w (chA A)))) (fun w ν => w = none ∧ Q ν) := fun κ f => by
    refine outer 3 0 _ rfl ((((G8.rf μ1).si (by decide)).tr (G8.of f)).si (by decide)) (si_same _ _ _ _) ?_ (fun i hi => ⟨?_, ?_⟩) (fun c' q h => by omega) (fun i _ => ?_)
    · rw [si_ne _ _ _ (by decide), f 78 (by decide), si_same]
    · rw [si_other _ _ hi, f 77 (by decide), si_ne _ _ _ (by decide), z77]
    · rw [si_ne _ _ _ (by decide), f 78 (by decide), si_other _ _ hi, z78]
    · rw [si_ne _ _ _ (by decide), f 76 (by decide), si_ne _ _ _ (by decide), z76]
  refine c_107 w 1 (chA A) (bstA A) (A 2050) (A 2045) (by omega) hs0 (by omega) (by omega) (by omega) hx bm hC2 (fun κ k1 k2 => ⟨fun _ => ⟨vw, ?_⟩, fun z => absurd rfl z⟩) (fun κ ℓ s T k1 k2 k3 k4 k5 k6 k7 k8 k9 => ⟨fun z => absurd z (nI_n1 k5), fun _ => ⟨vp_in_nI k5 (by decide), vw, ?_⟩⟩)
  · have := put κ k1
    rw [S, k2] at this
    exact this
  · have := put κ k1
    rw [S, k4] at this
    rw [nI_clamp (show s < 2 ^ 31 by omega), (k2 s k5).2, k8]
    exact this
theorem c_30 {n : Nat} {A : Nat → Nat} {μ : wm_M} {Q : wm_M → Prop} (hA : RA n A μ) (hO : RO n μ) (hK : askd A μ) (hp : A 2046 = 1) (hk : ∀ ν, RA n A ν → RO n ν → wrkd A ν → Q ν) : wm_OkV 0 30 [.ref 75, .int (nI (chA A))] μ Q := by
  refine v_30 _ _ _ ⟨fun z => w_30_8 _ _ _ ?_, fun z => ⟨rfl, hk μ hA hO (hA.2.2.2.2.2.2 z)⟩⟩
  have lp : ∀ j w ν, w + j = 6 → RA n A ν → RO n ν → askd A ν → ν.1 75 6 = 0 → (∀ w', w' < w → 0 < tnA A w' 12 → ν.1 77 w' = nI (sooA A w' (chA A)) ∧ ν.1 78 w' = nI (wtA A w') ∧ ∀ c q, c < 3 → q < 3 → ν.1 76 ((w' * 3 + c) * 3 + q) = nI (cmA A w' (chA A) c q)) → wm_Wp 0 30 10 [.ref 75, .int (nI (chA A)), .int (nI w)] ν (fun w ν => w = none ∧ Q ν) := by
    intro j
    induction j with
    | zero =>
      intro w ν hj hAν hOν hKν h0 hW
      have : w = 6 := by omega
      subst this
      have hW' : wrkd A ν := fun w hw t => hW w hw t
      have hS : Sm kO ν (wm_si ν 75 6 1) := (Sm.rf _ _).si rfl
      obtain ⟨h1, h2, h3, h4, h5, h6, h7⟩ := hAν
      refine w_30_10 _ _ _ _ ⟨fun _ => w_30_42 _ _ ⟨o01, rfl, hk _ ⟨h1, h2, h3.fr rfl, h4.sm (Or.inl rfl) ((Sm.rf _ _).si rfl), ?_, ?_, ?_⟩ (hOν.sm hS) ?_⟩, fun q => absurd (nI_le (Nat.le_refl 6) (by decide)) q⟩
      · exact fun q => askd_of (si_ne _ _ _ (by decide)) (si_ne _ _ _ (by decide)) (h5 q)
      · exact fun w tab a b q => drwn_of (si_ne _ _ _ (by decide)) (si_ne _ _ _ (by decide)) (si_ne _ _ _ (by decide)) (h6 w tab a b q)
      · exact fun _ => wrkd_of (si_ne _ _ _ (by decide)) (si_ne _ _ _ (by decide)) (si_ne _ _ _ (by decide)) hW'
      · exact wrkd_of (si_ne _ _ _ (by decide)) (si_ne _ _ _ (by decide)) (si_ne _ _ _ (by decide)) hW'
    | succ j ih =>
      intro w ν hj hAν hOν hKν h0 hW
      have hw6 : w < 6 := by omega
      refine w_30_10 _ _ _ _ ⟨fun q => absurd q (nI_ge (a := w) (b := 6) (by omega) (by decide)), fun _ => c_76 w (by omega) (hAν.cl (Nat.le_refl n)) ⟨fun y => w_30_36 _ _ _ _ ?_, fun y => c_31 w hw6 hAν hOν hKν hp h0 (fun κ k1 k2 k3 k4 k5 k6 k7 k8 k9 => w_30_36 _ _ _ _ ?_)⟩⟩
      · rw [nI_1]
        refine ih (w + 1) ν (by omega) hAν hOν hKν h0 (fun w' hw' t => ?_)
        by_cases e : w' = w
        · subst e; exact absurd t (bI_0.mp y)
        · exact hW w' (by omega) t
      · rw [nI_1]
        refine ih (w + 1) κ (by omega) k1 k2 k3 k4 (fun w' hw' t => ?_)
        by_cases e : w' = w
        · subst e; exact ⟨k5, k6, k7⟩
        · obtain ⟨a, b, d⟩ := hW w' (by omega) t
          refine ⟨by rw [(k8 w' e).1]; exact a, by rw [(k8 w' e).2]; exact b, fun c q hc hq => ?_⟩
          rw [k9 _ (by omega)]; exact d c q hc hq
  exact lp 6 0 μ rfl hA hO hK z (fun w' h => by omega)
