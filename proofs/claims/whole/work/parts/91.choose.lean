/-! ===== class: aimOf, tryFirst, choose, places ===== -/
theorem lN_m1 {a : Nat} (h : a < 2 ^ 31) : ¬ lN a = (-1 : Int64) := fun e => by
  have := congrArg Int64.toInt e
  rw [lN_toInt h, show (-1 : Int64).toInt = -1 from by decide +kernel] at this
  omega
theorem lN_ltm {a : Nat} (h : a < 2 ^ 31) : ¬ lN a < (-1 : Int64) := fun e => by
  have := Int64.lt_iff_toInt_lt.mp e
  rw [lN_toInt h, show (-1 : Int64).toInt = -1 from by decide +kernel] at this
  omega
theorem lmaxI {a b : Nat} (ha : a < 2 ^ 31) (hb : b < 2 ^ 31) : (if lN b < lN a then lN a else lN b) = lN (max a b) := by
  by_cases q : b < a
  · rw [if_pos ((lN_lt hb ha).mpr q), show max a b = a by omega]
  · rw [if_neg (fun r => q ((lN_lt hb ha).mp r)), show max a b = b by omega]
noncomputable def xv (A : Nat → Nat) (aim one c g q w : Nat) : Int64 := if anG A one g w = true then lN (amG A aim one g (fun w => vlA A aim c q w) w) else -1
theorem xv_n {A : Nat → Nat} {aim one c g q w : Nat} (h : ¬ (0 < tnA A w 12 ∧ gpA A one w = g)) : xv A aim one c g q (w + 1) = xv A aim one c g q w := by
  have e1 : anG A one g (w + 1) = anG A one g w := by
    conv => lhs; unfold anG
    by_cases a : 0 < tnA A w 12
    · rw [decide_eq_false (fun r => h ⟨a, r⟩), Bool.and_false, Bool.or_false]
    · rw [decide_eq_false a, Bool.false_and, Bool.or_false]
  have e2 : amG A aim one g (fun w => vlA A aim c q w) (w + 1) = amG A aim one g (fun w => vlA A aim c q w) w := by
    conv => lhs; unfold amG
    rw [if_neg h]
  unfold xv
  rw [e1, e2]
theorem xv_s {A : Nat → Nat} {aim one c g q w : Nat} (h1 : 0 < tnA A w 12) (h2 : gpA A one w = g) : xv A aim one c g q (w + 1) = lN (cmb aim (amG A aim one g (fun w => vlA A aim c q w) w) (vlA A aim c q w)) := by
  have e1 : anG A one g (w + 1) = true := anG_in (Nat.lt_succ_self w) h1 h2
  have e2 : amG A aim one g (fun w => vlA A aim c q w) (w + 1) = cmb aim (amG A aim one g (fun w => vlA A aim c q w) w) (vlA A aim c q w) := by
    conv => lhs; unfold amG
    rw [if_pos ⟨h1, h2⟩]
  unfold xv
  rw [if_pos e1, e2]
theorem s_32 (a b c : Nat) {μ : wm_M} {Q : Int32 → wm_M → Prop} (h : Q (nI ((a * 3 + b) * 3 + c)) μ) : wm_OkI 0 32 [.int (nI a), .int (nI b), .int (nI c)] μ Q := by
  refine v_32 _ _ _ _ _ ⟨_, rfl, ?_⟩
  rw [show ((nI a * (3 : Int32) + nI b) * (3 : Int32)) + nI c = nI ((a * 3 + b) * 3 + c) by simp (disch := omega) only [nl, nI_add, pk_mul, pk_sub, pk_div, rm_n, nI_clamp, vi_, nI_leI, nI_ltI, nI_eq, nI_sb, nI_eqm, nI_meq, Nat.zero_add, Nat.add_zero]]
  exact h
theorem c_35 {m : Nat} {A : Nat → Nat} (aim c q g one : Nat) (ha : aim < 3) (hc3 : c < 3) (hq3 : q < 3) (hg : g < 3) (ho : one < 2) {μ : wm_M} {Q : Int64 → wm_M → Prop} (hC : CL m A μ) (hW : wrkd A μ) (hp : A 2046 = 1) (hk : Q (xv A aim one c g q 6) μ) : wm_OkJ 0 35 [.ref 75, .int (nI aim), .int (nI c), .int (nI q), .int (nI g), .int (nI one)] μ Q := by
  have vl : ∀ w, vlA A aim c q w ≤ 24975 := fun w => vl_le hC.1 hC.2.1 hp hc3 hq3
  have lp : ∀ j w, w + j = 6 → wm_Wp 0 35 8 [.ref 75, .int (nI aim), .int (nI c), .int (nI q), .int (nI g), .int (nI one), .long (xv A aim one c g q w), .null, .int (nI w), .null, .null, .null] μ (fun v ν => ∃ x, v = some (.long x) ∧ Q x ν) := by
    intro j
    induction j with
    | zero =>
      intro w hj
      have : w = 6 := by omega
      subst this
      exact w_35_8 _ _ _ _ _ _ _ _ _ ⟨fun _ => w_35_137 _ _ _ ⟨_, rfl, hk⟩, fun q => absurd (nI_le (Nat.le_refl 6) (by decide)) q⟩
    | succ j ih =>
      intro w hj
      have hw6 : w < 6 := by omega
      have vw : vp_in (nI w) 6 := vp_in_nI hw6 (by decide)
      have cw : (nI w).toNatClampNeg = w := nI_clamp (by omega)
      have bg := hC.1.group hw6
      have nx : ∀ x, x = xv A aim one c g q (w + 1) → wm_Wp 0 35 131 [.ref 75, .int (nI aim), .int (nI c), .int (nI q), .int (nI g), .int (nI one), .long x, .null, .int (nI w), .null, .null, .null] μ (fun v ν => ∃ x, v = some (.long x) ∧ Q x ν) := fun x hx => by
        subst hx
        refine w_35_131 _ _ _ _ _ _ _ _ _ ?_
        rw [nI_1]
        exact ih (w + 1) (by omega)
      have hit : gpA A one w = g → wm_OkI 0 76 [.ref 2, .int (nI w)] μ (fun r2 μ1 => ((r2 = (0 : Int32) → wm_Wp 0 35 131 [.ref 75, .int (nI aim), .int (nI c), .int (nI q), .int (nI g), .int (nI one), .long (xv A aim one c g q w), .null, .int (nI w), .null, .null, .null] μ1 (fun v ν => ∃ x, v = some (.long x) ∧ Q x ν)) ∧ (¬ r2 = (0 : Int32) → wm_OkI 0 32 [.int (nI w), .int (nI c), .int (nI q)] μ1 (fun r4 μ3 => (vp_in r4 54 ∧ ((nI aim = (0 : Int32) → (vp_in (nI w) 6 ∧ wm_Wp 0 35 131 [.ref 75, .int (nI aim), .int (nI c), .int (nI q), .int (nI g), .int (nI one), .long ((if (xv A aim one c g q w) < (0 : Int64) then (0 : Int64) else (xv A aim one c g q w)) + (((μ3.1 78 (nI w).toNatClampNeg)).toInt64 * ((μ3.1 76 (r4).toNatClampNeg)).toInt64)), .null, .int (nI w), .null, .null, .null] μ3 (fun v ν => ∃ x, v = some (.long x) ∧ Q x ν))) ∧ (¬ nI aim = (0 : Int32) → wm_Wp 0 35 100 [.ref 75, .int (nI aim), .int (nI c), .int (nI q), .int (nI g), .int (nI one), .long (xv A aim one c g q w), .null, .int (nI w), .null, .int (μ3.1 76 (r4).toNatClampNeg), .null] μ3 (fun v ν => ∃ x, v = some (.long x) ∧ Q x ν)))))))) := fun eg => by
        refine c_76 w (by omega) hC ⟨fun z => nx _ (xv_n (fun r => bI_0.mp z r.1)).symm, fun z => ?_⟩
        have told := nz z
        obtain ⟨w1, w2, w3⟩ := hW w hw6 told
        obtain ⟨s1, s2, s3⟩ := soo_le (w := w) (ch := chA A) (c := c) (q := q) hC.1 hC.2.1 hp (by have := chA_le hC.1; omega) hc3 hq3
        have wl := wt_le A w
        have xs := xv_s (A := A) (aim := aim) (one := one) (c := c) (g := g) (q := q) told eg
        have al := amG_le (A := A) (aim := aim) (one := one) (g := g) (v := fun w => vlA A aim c q w) vl w
        have vw9 := vl w
        have vd : vlA A aim c q w = if aim = 0 then wtA A w * cmA A w (chA A) c q else if aim = 1 then cmA A w (chA A) c q else cmA A w (chA A) c q - sooA A w (chA A) := rfl
        have x0 : anG A one g w = false → xv A aim one c g q w = -1 := fun h => by unfold xv; rw [h]; rfl
        have x1 : anG A one g w = true → xv A aim one c g q w = lN (amG A aim one g (fun w => vlA A aim c q w) w) := fun h => by unfold xv; rw [h]; rfl
        have a0 : anG A one g w = false → amG A aim one g (fun w => vlA A aim c q w) w = 0 := amG_0 w
        generalize amG A aim one g (fun w => vlA A aim c q w) w = a at *
        generalize xv A aim one c g q w = x at *
        -- the greater one
        have mx : ∀ y : Nat, y = vlA A aim c q w → ¬ aim = 0 → (if lN y < x then x else lN y) = xv A aim one c g q (w + 1) := fun y hy na => by
          rw [xs]
          unfold cmb
          rw [if_neg na, ← hy]
          cases hb : anG A one g w with
          | false => rw [x0 hb, if_neg (lN_ltm (show y < 2 ^ 31 by omega)), a0 hb, Nat.zero_max]
          | true => rw [x1 hb, lmaxI (by omega) (by omega)]
        refine s_32 w c q ?_
        rw [nI_clamp (show (w * 3 + c) * 3 + q < 2 ^ 31 by omega), cw, w2, w3 c q hc3 hq3]
        refine ⟨vp_in_nI (by omega) (by decide), fun e => ⟨vw, nx _ ?_⟩, fun e => ?_⟩
        · have e := (nI_eq (b := 0) (by omega) (by decide)).mp e
          rw [if_pos e] at vd
          rw [nI_l (by omega), nI_l (by omega), lN_mul, ← vd, xs]
          unfold cmb
          rw [if_pos e]
          cases hb : anG A one g w with
          | false =>
            rw [x0 hb, if_pos (show (-1 : Int64) < 0 by decide), a0 hb, show (0 : Int64) = lN 0 from rfl, lN_add]
          | true =>
            rw [x1 hb, if_neg (show ¬ lN a < (0 : Int64) from fun r => absurd ((lN_lt (a := a) (b := 0) (by omega) (by decide)).mp r) (by omega)), lN_add]
        · have e : ¬ aim = 0 := fun r => e (by rw [r]; rfl)
          rw [if_neg e] at vd
          refine w_35_100 _ _ _ _ _ _ _ _ _ _ ⟨fun y => nx _ ?_, fun y => w_35_109 _ _ _ _ _ _ _ _ _ _ ⟨vw, nx _ ?_⟩⟩
          · have y := (nI_eq (b := 1) (by omega) (by decide)).mp y
            rw [if_pos y] at vd
            rw [show nI (cmA A w (chA A) c q) - (0 : Int32) = nI (cmA A w (chA A) c q) from pk_sub (b := 0) (Nat.zero_le _), nI_l (by omega)]
            exact mx _ vd.symm e
          · have y : ¬ aim = 1 := fun r => y (by rw [r]; rfl)
            rw [if_neg y] at vd
            rw [cw, w1, pk_sub s3, nI_l (by omega)]
            exact mx _ vd.symm e
      refine w_35_8 _ _ _ _ _ _ _ _ _ ⟨fun q => absurd q (nI_ge (a := w) (b := 6) (by omega) (by decide)), fun _ => ⟨fun z => w_35_24 _ _ _ _ _ _ _ _ _ ⟨vw, ?_⟩, fun z => ⟨fun y => hit ?_, fun y => nx _ (xv_n (fun r => y ?_)).symm⟩⟩⟩
      · have z := (nI_eq (b := 0) (by omega) (by decide)).mp z
        have eg : gpA A one w = A (1995 + w) := by unfold gpA; exact if_neg (by omega)
        rw [show μ.1 28 (nI w).toNatClampNeg = nI (A (1995 + w)) by rw [cw]; exact hC.2.2.1.group hw6]
        exact ⟨fun y => hit (eg.trans ((nI_eq (by omega) (by omega)).mp y)), fun y => nx _ (xv_n (fun r => y (by rw [← eg, r.2]))).symm⟩
      · have z : ¬ one = 0 := fun r => z (by rw [r]; rfl)
        have y := (nI_eq (a := 0) (by decide) (by omega)).mp y
        unfold gpA
        rw [if_pos (by omega)]; exact y
      · have z : ¬ one = 0 := fun r => z (by rw [r]; rfl)
        have := r.2
        unfold gpA at this
        rw [if_pos (by omega)] at this
        rw [← this]; rfl
  exact v_35 _ _ _ _ _ _ _ (lp 6 0 rfl)
noncomputable def acA (A : Nat → Nat) (aim one c : Nat) : Nat → Nat
  | 0 => 0
  | g + 1 => cmb aim (acA A aim one c g) (sv A aim one c g (sq A aim one c g))
theorem acA_3 (A : Nat → Nat) (aim one c : Nat) : acA A aim one c 3 = alA A aim one c := rfl
theorem cmb_le {aim a b n k : Nat} (ha : a ≤ n) (hb : b ≤ k) : cmb aim a b ≤ n + k := by
  unfold cmb
  split <;> omega
theorem cmb_0 (aim a : Nat) : cmb aim a 0 = a := by
  unfold cmb
  split <;> omega
theorem sv_le {m : Nat} {A : Nat → Nat} {aim one c g q : Nat} (hB : BA m A) (hX : VX A) (hp : A 2046 = 1) (hc3 : c < 3) (hq3 : q < 3) : sv A aim one c g q ≤ 149850 := amG_le (fun w => vl_le hB hX hp hc3 hq3) 6
theorem sq_lt (A : Nat → Nat) (aim one c g : Nat) : sq A aim one c g < 3 := bq_lt _ 3 (by decide)
theorem acA_le {m : Nat} {A : Nat → Nat} {aim one c : Nat} (hB : BA m A) (hX : VX A) (hp : A 2046 = 1) (hc3 : c < 3) : ∀ g, acA A aim one c g ≤ 149850 * g
  | 0 => Nat.le_refl 0
  | g + 1 => by
    have := acA_le (aim := aim) (one := one) hB hX hp hc3 g
    have s := sv_le (aim := aim) (one := one) (g := g) hB hX hp hc3 (sq_lt A aim one c g)
    have := cmb_le (aim := aim) this s
    unfold acA
    omega
theorem c_34 {m : Nat} {A : Nat → Nat} (aim c one : Nat) (ha : aim < 3) (hc3 : c < 3) (ho : one < 2) {μ : wm_M} {Q : Int64 → wm_M → Prop} (hC : CL m A μ) (hW : wrkd A μ) (hp : A 2046 = 1) (hk : ∀ ν, (∀ g, g < 3 → ν.1 80 g = sqI A aim one c g) → (∀ d, d ≠ 80 → ν.1 d = μ.1 d) → ν.2 = μ.2 → Q (lN (alA A aim one c)) ν) : wm_OkJ 0 34 [.ref 75, .int (nI aim), .int (nI c), .int (nI one)] μ Q := by
  have fC : ∀ {ν : wm_M}, (∀ d, d ≠ 80 → ν.1 d = μ.1 d) → CL m A ν ∧ wrkd A ν := fun h => ⟨hC.sm (fun d i q => by
    rw [h d (fun e => by rw [e, show kA 0 80 i = false from rfl] at q; cases q)]), wrkd_of (h 76 (by decide)) (h 77 (by decide)) (h 78 (by decide)) hW⟩
  have outer : ∀ j g ν, g + j = 3 → (∀ g', g' < g → ν.1 80 g' = sqI A aim one c g') → (∀ d, d ≠ 80 → ν.1 d = μ.1 d) → ν.2 = μ.2 → wm_Wp 0 34 6 [.ref 75, .int (nI aim), .int (nI c), .int (nI one), .long (lN (acA A aim one c g)), .null, .int (nI g), .null, .null, .null, .null, .null] ν (fun v ν => ∃ x, v = some (.long x) ∧ Q x ν) := by
    intro j
    induction j with
    | zero =>
      intro g ν hj h80 hF hl
      have : g = 3 := by omega
      subst this
      exact w_34_6 _ _ _ _ _ _ _ ⟨fun _ => w_34_132 _ _ _ ⟨_, rfl, hk ν h80 hF hl⟩, fun q => absurd (nI_le (Nat.le_refl 3) (by decide)) q⟩
    | succ j ih =>
      intro g ν hj h80 hF hl
      have hg3 : g < 3 := by omega
      have vg : vp_in (nI g) 3 := vp_in_nI hg3 (by decide)
      have cg : (nI g).toNatClampNeg = g := nI_clamp (by omega)
      have al := acA_le (aim := aim) (one := one) hC.1 hC.2.1 hp hc3 g
      have svl : ∀ q, q < 3 → sv A aim one c g q ≤ 149850 := fun q hq => sv_le hC.1 hC.2.1 hp hc3 hq
      have x6 : ∀ q, xv A aim one c g q 6 = if anG A one g 6 = true then lN (sv A aim one c g q) else -1 := fun q => rfl
      have sq3 := sq_lt A aim one c g
      have next : ∀ κ x, x = lN (acA A aim one c (g + 1)) → κ.1 80 g = sqI A aim one c g → (∀ i, i ≠ g → κ.1 80 i = ν.1 80 i) → (∀ d, d ≠ 80 → κ.1 d = μ.1 d) → κ.2 = μ.2 → wm_Wp 0 34 126 [.ref 75, .int (nI aim), .int (nI c), .int (nI one), .long x, .null, .int (nI g), .null, .null, .null, .null, .null] κ (fun v ν => ∃ x, v = some (.long x) ∧ Q x ν) := fun κ x hx k1 k2 k3 k4 => by
        subst hx
        refine w_34_126 _ _ _ _ _ _ _ ?_
        rw [nI_1]
        refine ih (g + 1) κ (by omega) (fun g' h => ?_) k3 k4
        by_cases e : g' = g
        · subst e; exact k1
        · rw [k2 g' e]; exact h80 g' (by omega)
      -- the best q
      have inner : ∀ j q κ y, q + j = 3 → κ.1 80 g = (if q = 0 ∨ anG A one g 6 = false then -1 else nI (bq (fun q => sv A aim one c g q) q)) → y = (if q = 0 ∨ anG A one g 6 = false then -1 else lN (sv A aim one c g (bq (fun q => sv A aim one c g q) q))) → (∀ i, i ≠ g → κ.1 80 i = ν.1 80 i) → (∀ d, d ≠ 80 → κ.1 d = μ.1 d) → κ.2 = μ.2 → wm_Wp 0 34 28 [.ref 75, .int (nI aim), .int (nI c), .int (nI one), .long (lN (acA A aim one c g)), .null, .int (nI g), .long y, .null, .int (nI q), .null, .null] κ (fun v ν => ∃ x, v = some (.long x) ∧ Q x ν) := by
        intro j
        induction j with
        | zero =>
          intro q κ y hj k1 hy k2 k3 k4
          have : q = 3 := by omega
          subst this
          refine w_34_28 _ _ _ _ _ _ _ _ _ ⟨fun _ => w_34_94 _ _ _ _ _ _ _ _ ⟨vg, ?_⟩, fun q => absurd (nI_le (Nat.le_refl 3) (by decide)) q⟩
          rw [cg, k1]
          have ss := svl _ sq3
          cases hb : anG A one g 6 with
          | false =>
            rw [if_pos (Or.inr hb)] at k1
            rw [if_pos (Or.inr rfl)]
            refine ⟨fun _ => next κ _ ?_ ?_ k2 k3 k4, fun z => absurd rfl z⟩
            · show _ = lN (cmb aim (acA A aim one c g) (sv A aim one c g (sq A aim one c g)))
              rw [show sv A aim one c g (sq A aim one c g) = 0 from amG_0 6 hb, cmb_0]
            · rw [k1]
              unfold sqI
              rw [hb, if_neg (by decide)]
          | true =>
            have no : ¬ (3 = 0 ∨ true = false) := by decide
            rw [if_neg no]
            rw [hb, if_neg no] at k1 hy
            have hy : y = lN (sv A aim one c g (sq A aim one c g)) := hy
            have e80 : κ.1 80 g = sqI A aim one c g := by
              rw [k1]
              unfold sqI
              rw [hb, if_pos rfl]
              rfl
            refine ⟨fun z => absurd z (nI_n1 (show sq A aim one c g < 864 by omega)), fun _ => ⟨fun z => next κ _ ?_ e80 k2 k3 k4, fun z => w_34_117 _ _ _ _ _ _ _ _ (next κ _ ?_ e80 k2 k3 k4)⟩⟩
            · have z := (nI_eq (b := 0) (by omega) (by decide)).mp z
              rw [hy, lN_add]
              show _ = lN (cmb aim (acA A aim one c g) (sv A aim one c g (sq A aim one c g)))
              unfold cmb
              rw [if_pos z]
            · have z : ¬ aim = 0 := fun r => z (by rw [r]; rfl)
              rw [hy, lmaxI (by omega) (by omega)]
              show _ = lN (cmb aim (acA A aim one c g) (sv A aim one c g (sq A aim one c g)))
              unfold cmb
              rw [if_neg z]
        | succ j ihq =>
          intro q κ y hj k1 hy k2 k3 k4
          have hq3 : q < 3 := by omega
          obtain ⟨fC1, fC2⟩ := fC k3
          have nx : ∀ ξ y', ξ.1 80 g = (if q + 1 = 0 ∨ anG A one g 6 = false then -1 else nI (bq (fun q => sv A aim one c g q) (q + 1))) → y' = (if q + 1 = 0 ∨ anG A one g 6 = false then -1 else lN (sv A aim one c g (bq (fun q => sv A aim one c g q) (q + 1)))) → (∀ i, i ≠ g → ξ.1 80 i = ν.1 80 i) → (∀ d, d ≠ 80 → ξ.1 d = μ.1 d) → ξ.2 = μ.2 → wm_Wp 0 34 88 [.ref 75, .int (nI aim), .int (nI c), .int (nI one), .long (lN (acA A aim one c g)), .null, .int (nI g), .long y', .null, .int (nI q), .null, .null] ξ (fun v ν => ∃ x, v = some (.long x) ∧ Q x ν) := fun ξ y' a b c' d e => by
            refine w_34_88 _ _ _ _ _ _ _ _ _ ?_
            rw [nI_1]
            exact ihq (q + 1) ξ y' (by omega) a b c' d e
          have take : anG A one g 6 = true → bq (fun q => sv A aim one c g q) (q + 1) = q → wm_Wp 0 34 75 [.ref 75, .int (nI aim), .int (nI c), .int (nI one), .long (lN (acA A aim one c g)), .null, .int (nI g), .null, .null, .int (nI q), .long (lN (sv A aim one c g q)), .null] κ (fun v ν => ∃ x, v = some (.long x) ∧ Q x ν) := fun hb eb => by
            have no : ¬ (q + 1 = 0 ∨ anG A one g 6 = false) := fun r => r.elim (fun r => by omega) (fun r => by rw [hb] at r; cases r)
            refine w_34_75 _ _ _ _ _ _ _ _ _ ⟨vg, ?_⟩
            rw [cg]
            exact nx _ _ (by rw [si_same, if_neg no, eb]) (by rw [if_neg no, eb]) (fun i hi => by rw [si_other _ _ hi]; exact k2 i hi) (fun d hd => by rw [si_ne _ _ _ hd]; exact k3 d hd) k4
          refine w_34_28 _ _ _ _ _ _ _ _ _ ⟨fun z => absurd z (nI_ge (a := q) (b := 3) (by omega) (by decide)), fun _ => c_35 aim c q g one ha hc3 hq3 hg3 ho fC1 fC2 hp ?_⟩
          rw [lg_cmp_eq, x6, cg, k1]
          have sq' := svl q hq3
          cases hb : anG A one g 6 with
          | false =>
            refine ⟨fun _ => nx κ y ?_ ?_ k2 k3 k4, fun z => absurd (by rw [if_neg (by decide)]) z⟩
            · rw [k1, hb, if_pos (Or.inr rfl), if_pos (Or.inr rfl)]
            · rw [hy, hb, if_pos (Or.inr rfl), if_pos (Or.inr rfl)]
          | true =>
            rw [if_pos rfl]
            refine ⟨fun z => absurd z (lN_m1 (by omega)), fun _ => ⟨vg, ?_⟩⟩
            by_cases q0 : q = 0
            · rw [if_pos (Or.inl q0)]
              refine ⟨fun _ => take hb ?_, fun z => absurd rfl z⟩
              unfold bq
              rw [if_pos (Or.inl q0)]
            · have no : ¬ (q = 0 ∨ true = false) := fun r => r.elim q0 (fun r => by cases r)
              have bl := bq_lt (fun q => sv A aim one c g q) q (by omega)
              have bs := svl _ (show bq (fun q => sv A aim one c g q) q < 3 by omega)
              rw [hb, if_neg no] at hy k1
              rw [if_neg no]
              refine ⟨fun z => absurd z (nI_n1 (by omega)), fun _ => ?_⟩
              rw [lg_cmp_ge, hy, lN_le (by omega) (by omega)]
              have no1 : ¬ (q + 1 = 0 ∨ anG A one g 6 = false) := fun r => r.elim (fun r => by omega) (fun r => by rw [hb] at r; cases r)
              refine ⟨fun z => nx κ _ ?_ ?_ k2 k3 k4, fun z => take hb ?_⟩
              · rw [k1, if_neg no1]
                congr 1
                conv => rhs; unfold bq
                rw [if_neg (fun r => r.elim q0 (fun r => by omega))]
              · rw [if_neg no1]
                congr 2
                conv => rhs; unfold bq
                rw [if_neg (fun r => r.elim q0 (fun r => by omega))]
              · conv => lhs; unfold bq
                rw [if_pos (Or.inr (by omega))]
      refine w_34_6 _ _ _ _ _ _ _ ⟨fun q => absurd q (nI_ge (a := g) (b := 3) (by omega) (by decide)), fun _ => ⟨vg, ?_⟩⟩
      rw [cg]
      exact inner 3 0 _ _ rfl (by rw [si_same, if_pos (Or.inl rfl)]) (by rw [if_pos (Or.inl rfl)]) (fun i hi => si_other _ _ hi) (fun d hd => by rw [si_ne _ _ _ hd]; exact hF d hd) hl
  exact v_34 _ _ _ _ _ (outer 3 0 μ rfl (fun g' h => by omega) (fun _ _ => rfl) rfl)
