/-! ===== the chart ===== -/
def kQ (c i : Nat) : Bool := !(Nat.beq c 25 || Nat.beq c 26 || (Nat.ble 62 c && Nat.ble c 67) || (Nat.ble 69 c && Nat.ble c 84) || (Nat.ble 86 c && Nat.ble c 87))
theorem kQ_of {c : Nat} (i : Nat) (h : ¬ (c = 25 ∨ c = 26 ∨ (62 ≤ c ∧ c ≤ 67) ∨ (69 ≤ c ∧ c ≤ 84) ∨ (86 ≤ c ∧ c ≤ 87))) : kQ c i = true := by
  cases hk : kQ c i with
  | true => rfl
  | false =>
    exfalso
    unfold kQ at hk
    simp only [Bool.not_eq_false', Bool.or_eq_true, Bool.and_eq_true, Nat.beq_eq, Nat.ble_eq] at hk
    omega
theorem kQ_A {c i : Nat} (h : kA 0 c i = true) : kQ c i = true := by
  have r := kA_in2 h
  refine kQ_of i (fun q => ?_)
  rcases q with rfl | rfl | q | q | q
  · rw [show kA 0 25 i = false from rfl] at h; cases h
  · rw [show kA 0 26 i = false from rfl] at h; cases h
  · omega
  · omega
  · omega
theorem kQ_O {c i : Nat} (h : kO c i = true) : kQ c i = true := by
  refine kQ_of i (fun q => ?_)
  unfold kO at h
  simp only [Bool.or_eq_true] at h
  rcases h with (((h | h) | h) | h) | h
  · unfold kT at h; simp only [Bool.or_eq_true, Bool.and_eq_true, Nat.beq_eq] at h; omega
  · unfold kN at h; simp only [Bool.or_eq_true, Bool.and_eq_true, Nat.beq_eq] at h; omega
  · unfold kF at h; simp only [Bool.or_eq_true, Nat.beq_eq] at h; omega
  · unfold kI at h
    simp only [Bool.or_eq_true, Bool.and_eq_true, Nat.beq_eq] at h
    rcases h with ((h | h) | h) | h
    · omega
    · omega
    · omega
    · have := kA_in2 h; omega
  · have := Nat.eq_of_beq_eq_true h; omega
theorem CL.kq {m : Nat} {A : Nat → Nat} {μ ν : wm_M} (h : CL m A μ) (e : Sm kQ μ ν) : CL m A ν := h.sm (e.le (fun _ _ q => kQ_A q))
theorem RO.kq {n : Nat} {μ ν : wm_M} (h : RO n μ) (e : Sm kQ μ ν) : RO n ν := h.sm (e.le (fun _ _ q => kQ_O q))
theorem RM.kq {A : Nat → Nat} {μ ν : wm_M} (h : RM 91 A μ) (e : Sm kQ μ ν) : RM 91 A ν := fun i hi => (e 91 i rfl).trans (h i hi)
theorem BS.kq {μ ν : wm_M} (h : BS μ) (e : Sm kQ μ ν) : BS ν := fun c h' a b => (e 68 _ rfl).trans (h c h' a b)
theorem F2.kq {μ ν : wm_M} (h : F2 μ ν) : Sm kQ μ ν := h.sm (fun _ => rfl) (fun _ => rfl)
/-- asking -/
def mfA (A : Nat → Nat) (c hr x : Nat) : Int32 := if A (452 + x) = 1 then -1 else if sayV A 1 (A (449 + x)) c hr < nI (hd_ (A (449 + x))) then sayV A 1 (A (449 + x)) c hr else nI (hd_ (A (449 + x)))
def Fx (μ ν : wm_M) : Prop := ∀ d, d ≠ 25 → d ≠ 26 → d ≠ 63 → d ≠ 64 → ν.1 d = μ.1 d
theorem Fx.sm {μ ν : wm_M} (h : Fx μ ν) {K : Nat → Nat → Bool} (a : ∀ i, K 25 i = false) (b : ∀ i, K 26 i = false) (c : ∀ i, K 63 i = false) (d : ∀ i, K 64 i = false) : Sm K μ ν := fun e i q => by
  have h1 : e ≠ 25 := fun r => by rw [r, a i] at q; cases q
  have h2 : e ≠ 26 := fun r => by rw [r, b i] at q; cases q
  have h3 : e ≠ 63 := fun r => by rw [r, c i] at q; cases q
  have h4 : e ≠ 64 := fun r => by rw [r, d i] at q; cases q
  rw [h e h1 h2 h3 h4]
theorem Fx.kq {μ ν : wm_M} (h : Fx μ ν) : Sm kQ μ ν := h.sm (fun _ => rfl) (fun _ => rfl) (fun _ => rfl) (fun _ => rfl)
theorem Fx.tr {μ ν κ : wm_M} (h : Fx μ ν) (g : Fx ν κ) : Fx μ κ := fun d a b c e => (g d a b c e).trans (h d a b c e)
theorem c_18 {m : Nat} {A : Nat → Nat} (c hr x : Nat) (hc : c < 36) (hh : hr < 12) (hx : x < A 2040) {μ : wm_M} {Q : wm_M → Prop} (hC : CL m A μ) (hq : ∀ ν, (∀ i, i ≠ (c * 12 + hr) * 3 + x → ν.1 63 i = μ.1 63 i ∧ ν.1 64 i = μ.1 64 i) → ν.1 63 ((c * 12 + hr) * 3 + x) = bI (clA A c hr x = true) → ν.1 64 ((c * 12 + hr) * 3 + x) = mfA A c hr x → Fx μ ν → Q ν) : wm_OkV 0 18 [.ref 62, .int (nI c), .int (nI hr), .int (nI x)] μ Q := by
  have bs := hC.1.sails
  have hx3 : x < 3 := by omega
  have bk := hC.1.kind hx3
  have bt := hC.1.torn hx3
  have bl := hC.1.land hc
  have eq : (((nI c * (12 : Int32)) + nI hr) * (3 : Int32)) + nI x = nI ((c * 12 + hr) * 3 + x) := by simp (disch := omega) only [nl, nI_add, pk_mul, pk_sub, pk_div, rm_n, nI_clamp, vi_, nI_leI, nI_ltI, nI_eq, nI_sb, nI_eqm, nI_meq, Nat.zero_add, Nat.add_zero]
  have hqb : (c * 12 + hr) * 3 + x < 1296 := by omega
  generalize (c * 12 + hr) * 3 + x = q at hq eq hqb
  have clq := nI_clamp (n := q) (by omega)
  have vq : vp_in (nI q) 1296 := vp_in_nI hqb (by decide)
  have vx : vp_in (nI x) 3 := vp_in_nI hx3 (by decide)
  have clx := nI_clamp (n := x) (by omega)
  -- the second half
  have tail : ∀ (b : Nat) (ν : wm_M), b < 2 → nI b = bI (clA A c hr x = true) → F2 μ ν → NmR A (A (449 + x)) c hr ν → wm_Wp 0 18 74 [.ref 62, .null, .null, .int (nI x), .int (nI q)] (wm_si ν 63 q (nI b)) (fun w ν => w = none ∧ Q ν) := fun b ν hb eb hF hN => by
    have hC1 : CL m A (wm_si ν 63 q (nI b)) := (hC.f2 hF).si rfl
    have hN1 : NmR A (A (449 + x)) c hr (wm_si ν 63 q (nI b)) := hN
    have fin : ∀ (κ : wm_M) (y : Int32), FR 26 (wm_si ν 63 q (nI b)) κ → y = mfA A c hr x → wm_Wp 0 18 125 [.null, .null, .null, .null, .null] (wm_si κ 64 q y) (fun w ν => w = none ∧ Q ν) := fun κ y hK hy => by
      refine f_18_125 _ _ ⟨rfl, hq _ (fun i hi => ⟨?_, ?_⟩) ?_ ?_ (fun d a1 a2 a3 a4 => ?_)⟩
      · show κ.1 63 i = _
        rw [hK 63 (by decide)]
        show (wm_si ν 63 q (nI b)).1 63 i = _
        rw [si_other _ _ hi, hF 63 (by decide) (by decide)]
      · rw [si_other _ _ hi, hK 64 (by decide)]
        show ν.1 64 i = _
        rw [hF 64 (by decide) (by decide)]
      · show κ.1 63 q = _
        rw [hK 63 (by decide), si_same]; exact eb
      · rw [si_same]; exact hy
      · rw [si_ne _ _ _ a4, hK d a2, si_ne _ _ _ a3]; exact hF d a1 a2
    refine f_18_74 _ _ _ _ ⟨vx, ?_⟩
    rw [clx, clq, hC1.2.2.1.torn hx3]
    refine ⟨fun z => s_6 x _ hx3 bk (hC1.2.2.1.kind hx3) (c_64 1 _ c hr (by decide) hh hC1 hN1 (fun κ hK => ⟨vq, fin κ _ hK ?_⟩)), fun z => ⟨vq, fin _ _ (FR.rf _ _) ?_⟩⟩
    · have z := (nI_eq (b := 0) (by omega) (by decide)).mp z
      unfold mfA
      exact (if_neg (show ¬ A (452 + x) = 1 by omega)).symm
    · have z : ¬ A (452 + x) = 0 := fun r => z (by rw [r]; rfl)
      unfold mfA
      rw [if_pos (by omega)]
  refine f_18 _ _ _ _ _ ⟨vx, ?_⟩
  rw [eq, clx, hC.2.2.1.kind hx3]
  refine c_47 c _ hr hc hC (fun ν hN hF => f_18_33 _ _ _ _ _ ⟨vp_in_nI hc (by decide), ?_⟩)
  rw [nI_clamp (show c < 2 ^ 31 by omega), (hC.f2 hF).2.2.1.land hc, clq, vn0, vn1]
  refine ⟨fun z => c_64 0 _ c hr (by decide) hh (hC.f2 hF) hN (fun κ hK => ⟨fun y => ⟨vq, tail 0 κ (by decide) ?_ (hF.tr (F2.of26 hK)) (fun j hj => (hK 25 (by decide) ▸ hN j hj : κ.1 25 j = _))⟩, fun y => ⟨vq, tail 1 κ (by decide) ?_ (hF.tr (F2.of26 hK)) (fun j hj => (hK 25 (by decide) ▸ hN j hj : κ.1 25 j = _))⟩⟩), fun z => ⟨vq, tail 1 ν (by decide) ?_ hF hN⟩⟩
  · have z := (nI_eq (b := 0) (by omega) (by decide)).mp z
    rw [bI_f]; rfl
    unfold clA
    rw [decide_eq_false (by omega), y]; decide
  · rw [bI_t]; rfl
    unfold clA
    rw [decide_eq_false (p := _ = (0 : Int32)) y]; simp
  · have z : ¬ A c = 0 := fun r => z (by rw [r]; rfl)
    rw [bI_t]; rfl
    unfold clA
    rw [decide_eq_true (p := A c = 1) (by omega)]; rfl
def AskB (A : Nat → Nat) (B : Nat) (ν : wm_M) : Prop := ∀ c hr x, c < 36 → hr < 12 → x < A 2040 → (c * 12 + hr) * 3 + x < B → ν.1 63 ((c * 12 + hr) * 3 + x) = bI (clA A c hr x = true) ∧ ν.1 64 ((c * 12 + hr) * 3 + x) = mfA A c hr x
/-- ask: what it leaves -/
theorem c_17 {n : Nat} {A : Nat → Nat} {μ : wm_M} {Q : wm_M → Prop} (hA : RA n A μ) (hq : ∀ ν, CL n A ν → askd A ν → ¬ ν.1 62 7 = 0 → (∀ d, d ≠ 25 → d ≠ 26 → d ≠ 63 → d ≠ 64 → d ≠ 62 → ν.1 d = μ.1 d) → ν.1 62 8 = μ.1 62 8 → Q ν) : wm_OkV 0 17 [.ref 62] μ Q := by
  have hC := hA.cl (Nat.le_refl n)
  have bs := hA.1.sails
  refine v_17 _ _ ⟨fun z => w_17_8 _ _ ?_, fun z => ⟨rfl, hq μ hC (hA.2.2.2.2.1 z) z (fun _ _ _ _ _ _ => rfl) rfl⟩⟩
  have inner : ∀ c hr, c < 36 → hr < 12 → ∀ k x ν, x + k = A 2040 → AskB A ((c * 12 + hr) * 3 + x) ν → Fx μ ν → (∀ κ, AskB A ((c * 12 + hr + 1) * 3) κ → Fx μ κ → wm_Wp 0 17 53 [.ref 62, .int (nI c), .int (nI hr), .null] κ (fun w ν => w = none ∧ Q ν)) → wm_Wp 0 17 26 [.ref 62, .int (nI c), .int (nI hr), .int (nI x)] ν (fun w ν => w = none ∧ Q ν) := by
    intro c hr hc hh k
    induction k with
    | zero =>
      intro x ν hx hB hF hk
      refine w_17_26 _ _ _ _ _ ?_
      rw [(hC.kq hF.kq).2.2.1.sails, show x = A 2040 by omega] at *
      refine ⟨fun _ => hk ν (fun c' hr' x' a b d e => hB c' hr' x' a b d ?_) hF, fun q => absurd (nI_le (Nat.le_refl _) (by omega)) q⟩
      omega
    | succ k ih =>
      intro x ν hx hB hF hk
      refine w_17_26 _ _ _ _ _ ?_
      have hCν := hC.kq hF.kq
      rw [hCν.2.2.1.sails]
      refine ⟨fun q => absurd q (nI_ge (by omega) (by omega)), fun _ => c_18 c hr x hc hh (by omega) hCν (fun κ k1 k2 k3 k4 => ?_)⟩
      rw [nI_1]
      refine ih (x + 1) κ (by omega) (fun c' hr' x' a b d e => ?_) (hF.tr k4) hk
      by_cases q : (c' * 12 + hr') * 3 + x' = (c * 12 + hr) * 3 + x
      · have e1 : c' = c := by omega
        have e2 : hr' = hr := by omega
        have e3 : x' = x := by omega
        subst e1; subst e2; subst e3
        exact ⟨k2, k3⟩
      · rw [(k1 _ q).1, (k1 _ q).2]
        exact hB c' hr' x' a b d (by omega)
  have mid : ∀ c, c < 36 → ∀ k hr ν, hr + k = 12 → AskB A ((c * 12 + hr) * 3) ν → Fx μ ν → (∀ κ, AskB A ((c * 12 + 12) * 3) κ → Fx μ κ → wm_Wp 0 17 59 [.ref 62, .int (nI c), .null, .null] κ (fun w ν => w = none ∧ Q ν)) → wm_Wp 0 17 18 [.ref 62, .int (nI c), .int (nI hr), .null] ν (fun w ν => w = none ∧ Q ν) := by
    intro c hc k
    induction k with
    | zero =>
      intro hr ν hh hB hF hk
      rw [show hr = 12 by omega] at *
      exact w_17_18 _ _ _ _ ⟨fun _ => hk ν hB hF, fun q => absurd (nI_le (Nat.le_refl 12) (by decide)) q⟩
    | succ k ih =>
      intro hr ν hh hB hF hk
      refine w_17_18 _ _ _ _ ⟨fun q => absurd q (nI_ge (a := hr) (b := 12) (by omega) (by decide)), fun _ => inner c hr hc (by omega) (A 2040) 0 ν (by omega) hB hF (fun κ k1 k2 => w_17_53 _ _ _ _ ?_)⟩
      rw [nI_1]
      exact ih (hr + 1) κ (by omega) k1 k2 hk
  have outer : ∀ k c ν, c + k = 36 → AskB A (c * 12 * 3) ν → Fx μ ν → wm_Wp 0 17 10 [.ref 62, .int (nI c), .null, .null] ν (fun w ν => w = none ∧ Q ν) := by
    intro k
    induction k with
    | zero =>
      intro c ν hc hB hF
      rw [show c = 36 by omega] at *
      refine w_17_10 _ _ _ ⟨fun _ => w_17_65 _ _ ⟨o01, rfl, hq _ ((hC.kq hF.kq).si rfl) (fun c' hr' x' a b d => hB c' hr' x' a b d (by omega)) (by show ¬ (1 : Int32) = 0; decide) (fun d a1 a2 a3 a4 a5 => by rw [si_ne _ _ _ a5]; exact hF d a1 a2 a3 a4) ?_⟩, fun q => absurd (nI_le (Nat.le_refl 36) (by decide)) q⟩
      show ν.1 62 8 = _
      rw [hF 62 (by decide) (by decide) (by decide) (by decide)]
    | succ k ih =>
      intro c ν hc hB hF
      refine w_17_10 _ _ _ ⟨fun q => absurd q (nI_ge (a := c) (b := 36) (by omega) (by decide)), fun _ => mid c (by omega) 12 0 ν (by omega) hB hF (fun κ k1 k2 => w_17_59 _ _ _ ?_)⟩
      rw [nI_1]
      exact ih (c + 1) κ (by omega) (fun c' hr' x' a b d e => k1 c' hr' x' a b d (by omega)) k2
  exact outer 36 0 μ (by omega) (fun c' hr' x' a b d e => by omega) (fun _ _ _ _ _ => rfl)
